/** The boundary cases that the document's sentences name: sheets, posts, laying a ground. */
public final class SheetBoundaryTests {
    private static final int MIN = Tried.MIN;
    private static final int MAX = Tried.MAX;
    private static final int[] EIGHT = Tried.OCTAGON;
    /** Numbers that are no numbers of sheets: just below, just above, far off. */
    private static final int[] NO_SHEETS = {-1, 4, 5, MIN, MAX};
    private static final int[] NO_LANES = {-1, 4, 5, MIN, MAX};

    private static void theUse() {
        Sentences.sentence("What it is", "An object is used for at most 512 calls after it has been made;");
        Tried x = Tried.made();
        for (int i = 0; i < 511; i++) {
            x.with("tear", 4);
        }
        x.due(511, "total", 7);
        x = Tried.collected(Tried.MOST);
        for (int i = 8; i < 511; i++) {
            x.due(28, "lay");
        }
        x.due(150, "count");
        x = Tried.laid(Tried.MOST);
        for (int i = 9; i < 511; i++) {
            x.due(1, "go", i % 150);
        }
        x.due(10, "total", 6);
        Tried one = Tried.laid(Tried.SQUARE).row(0, 0, 5).with("tear", 9);
        Tried other = Tried.made();
        for (int what = 0; what <= 8; what++) {
            other.due(0, "total", what);
        }
        other.due(1, "tear", 0).due(-3, "cutting");
        one.due(4, "total", 0).due(47, "cutting").due(0, "tear", 0);
    }

    private static void aNewObject() {
        Sentences.sentence("Promise 1", "No POSTS, no GROUND.");
        Tried.made().due(0, "clear");
        Tried.made().due(0, "total", 0).due(-3, "lay");
        Tried.made().due(1, "post", 0, 0);
        Tried.made().due(-3, "count").due(-3, "cutting").due(-3, "rank").due(-3, "back");
        for (int what = 0; what <= 8; what++) {
            Tried.made().due(0, "total", what);
        }
    }

    private static void whichSheets() {
        Sentences.sentence("Terms 1", "SHEETS 0 .. 3");
        Tried x = Tried.made();
        for (int s = 0; s <= 3; s++) {
            x.due(2, "sheet", s, s, 2).due(1, "put", s, 1, 10 + s).due(s + 1, "total", 8);
        }
        for (int s = 0; s <= 3; s++) {
            x.due(10 + s, "at", s, s, 1).due(0, "at", s, s, 0).due(0, "take", s, 2);
        }
        for (int s = 0; s <= 3; s++) {
            x.due(0, "tear", s).due(3 - s, "total", 8);
        }
        x.due(0, "total", 7);
        Sentences.sentence("Terms 3", "PLACE -12 (no SHEET 0 .. 3, no such place of a row)");
        x = Tried.made().row(0, 0, 1, 2).row(3, 0, 3, 4);
        for (int s : NO_SHEETS) {
            x.due(-12, "sheet", s, 0, 1).due(-12, "tear", s).due(-12, "put", s, 0, 9);
            x.due(-12, "at", s, 0, 0).due(-12, "take", s, 0);
        }
        x.due(25, "total", 7).due(2, "total", 8).due(0, "total", 0);
        x.due(1, "at", 0, 0, 0).due(4, "at", 3, 0, 1);
    }

    private static void missing() {
        Sentences.sentence("Terms 1", "none (MISSING, at first)");
        for (int s = 0; s <= 3; s++) {
            Tried.made().due(1, "tear", s);
            Tried.made().due(-11, "put", s, 0, 0).due(1, "total", 7);
            Tried.made().due(-11, "at", s, 0, 0).due(1, "total", 7);
            Tried.made().due(-11, "take", s, 0).due(1, "total", 7);
        }
        Tried.made().due(0, "total", 8);
        Sentences.sentence("Terms 3", "NULL -11 (a SHEET that is MISSING)");
        for (int s = 0; s <= 3; s++) {
            Tried x = Tried.made().row(s, 1, 7).with("tear", s);
            x.due(-11, "put", s, 0, 0).due(-11, "at", s, 1, 0).due(-11, "at", s, 0, 0).due(-11, "take", s, 0);
            x.due(4, "total", 7).due(0, "total", 8);
            x.due(0, "sheet", s, 1, 0).due(-12, "put", s, 0, 0).due(-12, "at", s, 1, 0).due(0, "take", s, 0);
        }
    }

    private static void rows() {
        Sentences.sentence("Terms 1", "or a row of 0 .. 20 numbers of a LANE");
        for (int n : new int[] {0, 1, 2, 19, 20}) {
            Tried x = Tried.made().due(n, "sheet", 2, 1, n).due(1, "total", 8);
            x.due(-12, "put", 2, -1, 5).due(-12, "put", 2, n, 5).due(-12, "put", 2, MAX, 5);
            x.due(-12, "put", 2, MIN, 5).due(-12, "at", 2, 1, -1).due(-12, "at", 2, 1, n);
            x.due(-12, "at", 2, 1, MIN).due(-12, "at", 2, 1, MAX).due(8, "total", 7);
            if (n > 0) {
                x.due(1, "put", 2, 0, 8).due(1, "put", 2, n - 1, 9).due(9, "at", 2, 1, n - 1);
            }
            x.due(8, "total", 7).due(0, "tear", 2);
        }
        Sentences.sentence("Terms 1", "each 0 at first");
        Tried x = Tried.made().with("sheet", 1, 3, 20);
        for (int i = 0; i < 20; i++) {
            x.due(0, "at", 1, 3, i).with("put", 1, i, -1);
        }
        x.with("sheet", 1, 3, 20);
        for (int i = 0; i < 20; i++) {
            x.due(0, "at", 1, 3, i).with("put", 1, i, -1);
        }
        x.with("tear", 1).with("sheet", 1, 2, 20);
        for (int i = 0; i < 20; i++) {
            x.due(0, "at", 1, 2, i).with("put", 1, i, -1);
        }
        x.with("sheet", 1, 2, 1).with("sheet", 1, 2, 20).due(0, "at", 1, 2, 0).due(0, "at", 1, 2, 19);
    }

    private static void sheet() {
        Sentences.sentence("Promise 2", "A SHEET is a row of n numbers: n.");
        Tried.made().due(0, "sheet", 0, 0, 0).due(20, "sheet", 3, 3, 20).due(1, "sheet", 1, 2, 1);
        Tried x = Tried.made().row(0, 2, 5, 6, 7);
        x.due(3, "sheet", 0, 1, 3).due(-13, "at", 0, 2, 0).due(0, "at", 0, 1, 2);
        x.due(2, "sheet", 0, 1, 2).due(-12, "at", 0, 1, 2).due(1, "total", 8);
        Sentences.sentence("Promise 2", "PLACE: the SHEET");
        for (int s : NO_SHEETS) {
            Tried.made().due(-12, "sheet", s, 0, 1).due(-12, "sheet", s, 4, 21).due(-12, "sheet", s, 0, -1)
                    .due(3, "total", 7).due(0, "total", 8);
        }
        Sentences.sentence("Promise 2", "BAD: lane, n above 20");
        x = Tried.made().row(0, 2, 5);
        for (int lane : NO_LANES) {
            x.due(-2, "sheet", 0, lane, 1).due(-2, "sheet", 0, lane, 0).due(-2, "sheet", 0, lane, 20);
            x.due(-2, "sheet", 0, lane, -1).due(-2, "sheet", 0, lane, 21).due(-2, "sheet", 1, lane, 1);
        }
        for (int lane = 0; lane <= 3; lane++) {
            x.due(-2, "sheet", 0, lane, 21).due(-2, "sheet", 1, lane, 22).due(-2, "sheet", 1, lane, MAX);
        }
        x.due(0, "total", 7).due(1, "total", 8).due(5, "at", 0, 2, 0).due(-12, "at", 0, 2, 1);
        Sentences.sentence("Promise 2", "SIZE.");
        x = Tried.made().row(0, 2, 5);
        for (int lane = 0; lane <= 3; lane++) {
            x.due(-14, "sheet", 0, lane, -1).due(-14, "sheet", 1, lane, MIN);
        }
        x.due(8, "total", 7).due(1, "total", 8).due(5, "at", 0, 2, 0);
        Sentences.sentence("Terms 3", "SIZE -14 (a row of below 0)");
        Tried.made().due(0, "sheet", 3, 0, 0).due(-14, "sheet", 3, 0, -1).due(1, "total", 7).due(1, "total", 8);
    }

    private static void tear() {
        Sentences.sentence("Promise 3", "A SHEET is MISSING: whether it was: 1, 0.");
        for (int s = 0; s <= 3; s++) {
            Tried x = Tried.made().due(1, "tear", s).due(1, "tear", s).due(0, "total", 8);
            x.with("sheet", s, 0, 0).due(1, "total", 8).due(0, "tear", s).due(0, "total", 8).due(1, "tear", s);
            x.row(s, 3, 9, 9).row(3 - s, 0, 8).due(0, "tear", s).due(1, "total", 8).due(-11, "at", s, 3, 0);
            x.due(8, "at", 3 - s, 0, 0);
        }
        Sentences.sentence("Promise 3", "PLACE.");
        Tried x = Tried.made().with("sheet", 0, 0, 1).with("sheet", 3, 0, 1);
        for (int s : NO_SHEETS) {
            x.due(-12, "tear", s);
        }
        x.due(NO_SHEETS.length, "total", 7).due(2, "total", 8);
    }

    private static void lowestBits() {
        Sentences.sentence("Terms 1", "0 bytes, 1 shorts, 2 ints, 3 longs");
        long[][] lasts = {{-128, 127}, {-32768, 32767}, {MIN, MAX}, {Long.MIN_VALUE, Long.MAX_VALUE}};
        for (int lane = 0; lane <= 3; lane++) {
            Tried x = Tried.made().row(lane, lane, lasts[lane][0], lasts[lane][1], 0, -1, 1);
            x.due(lasts[lane][0], "at", lane, lane, 0).due(lasts[lane][1], "at", lane, lane, 1);
            x.due(0, "at", lane, lane, 2).due(-1, "at", lane, lane, 3).due(1, "at", lane, lane, 4);
        }
        Sentences.sentence("Terms 1", "a number comes in as the lowest bits of it that the LANE has");
        for (int lane = 0; lane <= 2; lane++) {
            long least = lasts[lane][0];
            long greatest = lasts[lane][1];
            long all = greatest - least + 1;
            Tried x = Tried.made().row(0, lane, greatest + 1, least - 1, all, all - 1, all + 7, -all, -all - 1);
            long[] came = {least, greatest, 0, -1, 7, 0, -1};
            for (int i = 0; i < came.length; i++) {
                x.due(came[i], "at", 0, lane, i);
            }
            x.due(1, "put", 0, 0, Long.MIN_VALUE).due(0, "at", 0, lane, 0);
            x.due(1, "put", 0, 0, Long.MAX_VALUE).due(-1, "at", 0, lane, 0);
        }
        long[] came = {(byte) 0xF0, (short) 0xDEF0, 0x9ABCDEF0, 0x123456789ABCDEF0L};
        for (int lane = 0; lane <= 3; lane++) {
            Tried.made().row(1, lane, 0x123456789ABCDEF0L).due(came[lane], "at", 1, lane, 0);
        }
    }

    private static void put() {
        Sentences.sentence("Promise 4", "A number comes into place i of a SHEET: 1.");
        Tried x = Tried.made().with("sheet", 0, 3, 20).with("sheet", 3, 3, 1);
        x.due(1, "put", 0, 0, -12).due(1, "put", 0, 19, 4).due(1, "put", 3, 0, 0);
        x.due(-12, "at", 0, 3, 0).due(0, "at", 0, 3, 1).due(0, "at", 0, 3, 18).due(4, "at", 0, 3, 19);
        x.due(1, "put", 0, 0, 6).due(6, "at", 0, 3, 0).due(0, "total", 7);
        Sentences.sentence("Promise 4", "PLACE: the SHEET; NULL; PLACE: i.");
        x = Tried.made().row(0, 3, 5).row(3, 3, 6);
        for (int s : NO_SHEETS) {
            x.due(-12, "put", s, 0, 1).due(-12, "put", s, -1, 1);
        }
        x.due(10, "total", 7);
        x.due(-11, "put", 1, 0, 1).due(-11, "put", 1, -1, 1).due(-11, "put", 2, 20, 1).due(-11, "put", 2, MIN, 1);
        x.due(14, "total", 7);
        x.due(-12, "put", 0, 1, 1).due(-12, "put", 3, -1, 1).due(-12, "put", 0, 20, 1).due(17, "total", 7);
        x.due(5, "at", 0, 3, 0).due(6, "at", 3, 3, 0).due(2, "total", 8);
    }

    private static void at() {
        Sentences.sentence("Promise 5", "Place i of a SHEET, taken as one of a LANE.");
        for (int lane = 0; lane <= 3; lane++) {
            Tried x = Tried.made().with("sheet", 3 - lane, lane, 20).with("put", 3 - lane, 19, 100 + lane);
            x.due(0, "at", 3 - lane, lane, 0).due(100 + lane, "at", 3 - lane, lane, 19).due(0, "total", 7);
        }
        Tried.made().row(0, 0, -11, -12, -13, -14, -2).due(-11, "at", 0, 0, 0).due(-12, "at", 0, 0, 1)
                .due(-13, "at", 0, 0, 2).due(-14, "at", 0, 0, 3).due(-2, "at", 0, 0, 4).due(0, "total", 7);
        Sentences.sentence("Promise 5", "PLACE: the SHEET; BAD: lane; NULL; CAST; PLACE: i (as longs).");
        Tried x = Tried.made().row(0, 1, 5).row(3, 3, 6);
        for (int s : NO_SHEETS) {
            x.due(-12, "at", s, 0, 0).due(-12, "at", s, 4, 0).due(-12, "at", s, -1, -1);
        }
        x.due(15, "total", 7);
        for (int lane : NO_LANES) {
            x.due(-2, "at", 0, lane, 0).due(-2, "at", 0, lane, 1).due(-2, "at", 1, lane, 0).due(-2, "at", 2, lane, -1);
        }
        x.due(15, "total", 7);
        for (int lane = 0; lane <= 3; lane++) {
            x.due(-11, "at", 1, lane, 0).due(-11, "at", 2, lane, -1).due(-11, "at", 2, lane, 20);
        }
        x.due(27, "total", 7);
        for (int lane = 0; lane <= 3; lane++) {
            if (lane != 1) {
                x.due(-13, "at", 0, lane, 0).due(-13, "at", 0, lane, 1).due(-13, "at", 0, lane, -1);
            }
        }
        x.due(36, "total", 7);
        x.due(-12, "at", 0, 1, 1).due(-12, "at", 0, 1, -1).due(-12, "at", 3, 3, MAX).due(39, "total", 7);
        x.due(5, "at", 0, 1, 0).due(6, "at", 3, 3, 0);
        Sentences.sentence("Terms 3", "a SHEET of another LANE");
        for (int lane = 0; lane <= 3; lane++) {
            x = Tried.made().row(2, lane, 1);
            for (int other = 0; other <= 3; other++) {
                x.due(other == lane ? 1 : -13, "at", 2, other, 0);
            }
            x.due(3, "total", 7).with("sheet", 2, lane, 0).due(-13, "at", 2, 3 - lane, 0).due(-12, "at", 2, lane, 0);
            x.with("tear", 2).due(-11, "at", 2, 3 - lane, 0);
        }
    }

    private static void places() {
        Sentences.sentence("Terms 1", "at places x, y of 0 .. 60");
        Tried.made().due(1, "post", 0, 0).due(2, "post", 60, 0).due(3, "post", 0, 60).due(4, "post", 60, 60);
        Sentences.sentence("Promise 6", "BAD: x, y");
        Tried x = Tried.made();
        for (int no : new int[] {-1, 61, 62, MIN, MAX}) {
            x.due(-2, "post", no, 0).due(-2, "post", 0, no).due(-2, "post", no, 60).due(-2, "post", 60, no);
            x.due(-2, "post", no, no);
        }
        x.due(0, "total", 0).due(0, "total", 7);
        x.posts(EIGHT).due(-2, "post", 61, 0).due(-2, "post", 0, -1).due(8, "total", 0);
    }

    private static void post() {
        Sentences.sentence("Promise 6", "A POST is collected: how many there are.");
        Tried x = Tried.made();
        for (int p = 1; p <= 8; p++) {
            x.due(p, "post", p, 60 - p).due(p, "total", 0);
        }
        Sentences.sentence("Terms 1", "no two at one");
        x = Tried.made().due(1, "post", 3, 5).due(-3, "post", 3, 5).due(2, "post", 5, 3).due(3, "post", 3, 3);
        x.due(4, "post", 5, 5).due(5, "post", 3, 4).due(6, "post", 4, 5);
        x.due(-3, "post", 3, 5).due(-3, "post", 4, 5).due(-3, "post", 5, 5).due(6, "total", 0);
        Sentences.sentence("Promise 6", "STATE: there is one at that place (a GROUND is not asked for)");
        Tried.made().due(1, "post", 0, 0).due(-3, "post", 0, 0).due(2, "post", 0, 1).due(0, "total", 7);
        x = Tried.laid(Tried.SQUARE).due(-3, "post", 4, 4).due(-3, "post", 0, 4).due(4, "total", 0);
        x.due(4, "clear").due(1, "post", 4, 4).due(-3, "post", 4, 4).due(2, "post", 0, 4);
        x = Tried.collected(EIGHT);
        for (int i = 0; i < EIGHT.length; i += 2) {
            x.due(-3, "post", EIGHT[i], EIGHT[i + 1]);
        }
        Sentences.sentence("Promise 6", "FULL: 8.");
        x = Tried.made().posts(EIGHT).due(8, "total", 0).due(-4, "post", 60, 60).due(-4, "post", 0, 0);
        x.due(8, "total", 0).due(0, "total", 7).due(28, "lay").due(-4, "post", 60, 60).due(8, "total", 1);
        x.due(8, "clear").due(1, "post", 60, 60);
        x = Tried.collected(0, 0, 1, 0, 2, 0, 3, 0, 4, 0, 5, 0, 6, 0);
        x.due(7, "total", 0).due(8, "post", 60, 60).due(-4, "post", 59, 60);
        Sentences.sentence("Terms 1", "POSTS that are collected: 8 at most");
        Tried.collected(EIGHT).due(-4, "post", 9, 9).due(8, "total", 0).due(8, "clear").due(0, "total", 0);
    }

    private static void take() {
        Sentences.sentence("Promise 7", "(to its end; a last x without y is left out)");
        Tried x = Tried.made().row(0, 0, 1, 2, 3, 4, 5);
        x.due(0, "take", 0, 5).due(0, "take", 0, 4).due(0, "total", 0).due(1, "take", 0, 3).due(1, "total", 0);
        x.due(1, "take", 0, 2).due(1, "take", 0, 1).due(-3, "post", 4, 5).due(-3, "post", 3, 4).due(-3, "post", 2, 3);
        x.due(3, "clear").due(2, "take", 0, 1).due(2, "clear").due(2, "take", 0, 0).due(2, "total", 0);
        x.due(-3, "post", 1, 2).due(-3, "post", 3, 4);
        Tried.made().row(1, 0, 7).due(0, "take", 1, 0).due(0, "take", 1, 1).due(0, "total", 0);
        Tried.made().row(1, 0, 7, 8).due(0, "take", 1, 1).due(0, "take", 1, 2).due(1, "take", 1, 0)
                .due(-3, "post", 7, 8);
        Tried.made().with("sheet", 1, 0, 0).due(0, "take", 1, 0).due(0, "total", 7);
        x = Tried.made().with("sheet", 3, 0, 20);
        for (int i = 0; i < 20; i++) {
            x.with("put", 3, i, i);
        }
        x.due(0, "take", 3, 20).due(0, "take", 3, 19).due(1, "take", 3, 18).due(1, "take", 3, 16).due(2, "total", 0);
        Sentences.sentence("Promise 7", "are collected, one by one, till one is refused: how many came.");
        Tried.made().row(0, 0, 1, 1, 2, 2, 61, 3, 4, 4).due(2, "take", 0, 0).due(2, "total", 0).due(3, "post", 4, 4);
        Tried.made().row(0, 0, 1, 1, 2, -1, 4, 4).due(1, "take", 0, 0).due(1, "total", 0).due(0, "total", 7);
        Tried.made().row(0, 0, 61, 1, 2, 2).due(0, "take", 0, 0).due(0, "total", 0).due(1, "take", 0, 2);
        Tried.made().row(0, 0, 5, 5, 5, 5, 6, 6).due(1, "take", 0, 0).due(1, "total", 0).due(0, "take", 0, 2)
                .due(1, "take", 0, 4).due(0, "take", 0, 0).due(2, "total", 0).due(0, "total", 7);
        x.with("clear").due(8, "take", 3, 0).due(8, "total", 0).due(-3, "post", 14, 15).due(-4, "post", 16, 17);
        x.with("clear").due(8, "take", 3, 4).due(8, "total", 0).due(-3, "post", 18, 19).due(0, "take", 3, 4);
        x.with("clear").posts(EIGHT).due(0, "take", 3, 0).due(8, "total", 0).due(0, "total", 7);
        x = Tried.collected(60, 0, 60, 1, 60, 2, 60, 3, 60, 4, 60, 5, 60, 6).row(0, 2, 7, 8, 8, 8);
        x.due(1, "take", 0, 0).due(8, "total", 0).due(-3, "post", 7, 8).due(7, "at", 0, 2, 0).due(8, "at", 0, 2, 3);
        Sentences.sentence("Promise 7", "POSTS x, y, x, y, .. from place i of a SHEET on");
        x = Tried.made().row(2, 1, 0, 60, 60, 0, 60, 60);
        x.due(3, "take", 2, 0).due(-3, "post", 0, 60).due(-3, "post", 60, 0).due(-3, "post", 60, 60);
        x.due(3, "lay").due(3, "clear").due(2, "take", 2, 2).due(3, "post", 0, 60).due(3, "lay");
        Tried.made().row(0, 0, 316, 1).due(1, "take", 0, 0).due(-3, "post", 60, 1);
        Tried.made().row(0, 0, 200, 1).due(0, "take", 0, 0);
        Tried.made().row(0, 1, 65536, 65596).due(1, "take", 0, 0).due(-3, "post", 0, 60);
        Tried.made().row(0, 1, 256, 0).due(0, "take", 0, 0);
        Tried.made().row(0, 2, (1L << 32) + 7, 1L << 40).due(1, "take", 0, 0).due(-3, "post", 7, 0);
        Sentences.sentence("Promise 7", "(A number beyond an int is no place.)");
        long[] beyond = {1L << 32, (1L << 32) + 7, -(1L << 32), 1L << 31, Long.MIN_VALUE, Long.MAX_VALUE, 1L << 63 | 5};
        for (long no : beyond) {
            Tried.made().row(3, 3, no, 1, 2, 2).due(0, "take", 3, 0).due(0, "total", 0).due(1, "take", 3, 2);
            Tried.made().row(3, 3, 1, no, 2, 2).due(0, "take", 3, 0).due(0, "total", 0).due(0, "total", 7);
            Tried.made().row(3, 3, 3, 3, no, no).due(1, "take", 3, 0).due(1, "total", 0);
        }
        takeRefused();
    }

    private static void takeRefused() {
        Sentences.sentence("Promise 7", "PLACE: the SHEET; NULL; PLACE: i is not 0 .. how many it has.");
        Tried x = Tried.made().row(0, 0, 1, 2, 3, 4).row(3, 0, 5, 6).with("sheet", 1, 0, 0).with("sheet", 1, 0, 20);
        for (int s : NO_SHEETS) {
            x.due(-12, "take", s, 0).due(-12, "take", s, -1);
        }
        x.due(10, "total", 7);
        x.due(-11, "take", 2, 0).due(-11, "take", 2, -1).due(-11, "take", 2, 20).due(-11, "take", 2, MAX);
        x.due(14, "total", 7);
        x.due(-12, "take", 0, 5).due(-12, "take", 0, -1).due(-12, "take", 0, MAX).due(-12, "take", 0, MIN);
        x.due(-12, "take", 3, 3).due(-12, "take", 1, 21).due(20, "total", 7).due(0, "total", 0);
        x.due(0, "take", 0, 4).due(0, "take", 3, 2).due(0, "take", 1, 20).due(20, "total", 7);
        x.with("sheet", 1, 0, 0).due(-12, "take", 1, 1).due(-12, "take", 1, -1).due(0, "take", 1, 0);
        x.posts(EIGHT).due(-12, "take", 0, 5).due(0, "take", 0, 4).due(0, "take", 0, 0);
    }

    private static void clear() {
        Sentences.sentence("Promise 8", "No POSTS are collected any more: how many were.");
        Tried x = Tried.made().due(0, "clear").due(1, "post", 3, 3).due(1, "clear").due(0, "clear");
        x.due(0, "total", 0).due(1, "post", 3, 3).due(1, "clear");
        x.posts(EIGHT).due(8, "clear").due(0, "total", 0).due(-3, "lay").posts(EIGHT).due(8, "total", 0);
        Sentences.sentence("Promise 8", "(THE GROUND stays.)");
        x = Tried.laid(Tried.PENTAGON).with("turn", 1).with("tell", 0, 1).with("weigh", 3, 9).with("go", 4);
        x.due(5, "clear").due(5, "total", 1).due(10, "total", 2).due(5, "total", 3).due(1, "total", 4);
        x.due(1, "total", 6).due(985, "cutting").due(5, "count").due(9, "weigh", 3, 0).due(3, "end", 9, 0);
        x.due(0, "back").due(701, "cutting").due(-3, "lay").due(701, "cutting");
        x.posts(1, 1, 2, 2).due(-3, "lay").due(5, "total", 1).due(5, "fence", 1, 3);
    }

    private static void lay() {
        Sentences.sentence("Promise 9", "STATE: there are fewer than 3 POSTS (a GROUND is not asked for).");
        Tried x = Tried.made().due(-3, "lay").posts(0, 0).due(-3, "lay").posts(9, 0).due(-3, "lay");
        x.due(-3, "count").due(0, "total", 1).due(0, "total", 7).due(3, "post", 0, 9).due(3, "lay").due(1, "count");
        x.with("clear").posts(1, 1, 2, 1).due(-3, "lay").due(3, "total", 1).due(3, "post", 3, 1).due(2, "lay");
        Tried.collected(EIGHT).due(28, "lay").due(8, "total", 1).due(132, "count");
        Sentences.sentence("Promise 9", "THE GROUND is laid of the POSTS that are collected (they stay)");
        x = Tried.laid(Tried.TRIANGLE).due(3, "total", 0).due(-3, "post", 60, 0).due(4, "post", 60, 60).due(6, "lay");
        x.due(4, "total", 0).due(6, "lay").due(2, "count").due(5, "post", 9, 9).due(4, "total", 1).due(-1, "degree", 4);
        Sentences.sentence("Promise 9", "with no FENCE HELD, BARRED, all weights 0, nothing to go back to");
        x = Tried.laid(Tried.PENTAGON);
        for (int f = 0; f < 10; f++) {
            x.with("weigh", f, 1000 - f);
        }
        x.with("tell", 1, 1).with("tell", 6, 2).with("tell", 9, 1).with("go", 1).with("go", 0).due(2, "total", 6);
        x.due(10, "lay").due(0, "total", 4).due(0, "total", 5).due(0, "total", 6).due(5, "count").due(-3, "back");
        x.due(0, "best", 1).due(0, "best", 0);
        for (int f = 0; f < 10; f++) {
            x.due(0, "weigh", f, 7);
        }
        x.with("clear").posts(Tried.TRIANGLE).due(3, "lay").due(0, "best", 1).with("clear");
        x.posts(Tried.PENTAGON).with("lay").due(0, "best", 1).due(0, "best", 0).due(0, "weightAs", 9, 0);
        layOverAnother();
        Sentences.sentence("Promise 9", "THE CUTTING is the first in ORDER: how many FENCES.");
        x = Tried.laid(Tried.PENTAGON).with("go", 4).due(10, "lay").due(671, "cutting").due(0, "rank");
        x.with("turn", 1).with("lay").due(671, "cutting");
        Tried.collected(Tried.TRIANGLE).due(3, "lay").due(7, "cutting");
        Tried.collected(Tried.LINE).due(2, "lay").due(3, "cutting");
        Tried.collected(Tried.MOST).due(28, "lay").due(0, "rank");
        Tried.collected(0, 0, 1, 1, 2, 2, 3, 3, 4, 4, 5, 5, 6, 6, 60, 60).due(7, "lay").due(127, "cutting");
    }

    private static void layOverAnother() {
        Sentences.sentence("Promise 9", "THE GROUND is laid of the POSTS that are collected");
        int[][] befores = {Tried.OCTAGON, Tried.MOST, Tried.HEXAGON, Tried.KITE, Tried.SQUARE, Tried.LINE};
        int[][] grounds = {Tried.HEXAGON, Tried.PENTAGON, Tried.KITE, Tried.SQUARE, Tried.TRIANGLE, Tried.LINE};
        for (int[] before : befores) {
            for (int[] ground : grounds) {
                Tried x = Tried.laid(before).with("go", 1).with("tell", 0, 1).with("weigh", 2, 9).with("go", 0);
                x.with("far").with("apart", 1).with("sure", 0).with("best", 1);
                x.with("clear").posts(ground).with("lay");
                String due = State.of(Tried.laid(ground), ground);
                Sentences.same("a ground laid over another", State.of(x, ground), due);
            }
        }
    }

    private static void theGround() {
        Sentences.sentence("Terms 1", "THE GROUND (none at first) is laid of POSTS, numbered as they were collected.");
        Tried.made().due(-3, "thirds").due(0, "total", 1).due(1, "tear", 0).due(-3, "thirds");
        Tried.collected(Tried.MOST).due(-3, "fence", 0, 1).due(0, "total", 1).due(0, "total", 2);
        Tried.laid(0, 0, 60, 0, 30, 0).due(-9, "fence", 0, 1).due(0, "fence", 0, 2).due(1, "fence", 1, 2);
        Tried.laid(0, 0, 30, 0, 60, 0).due(0, "fence", 0, 1).due(-9, "fence", 0, 2).due(1, "fence", 1, 2);
        Tried.laid(30, 0, 60, 0, 0, 0).due(0, "fence", 0, 1).due(1, "fence", 0, 2).due(-9, "fence", 1, 2);
        // no number is lost to what was cleared or refused, nor to the way that a post came
        Tried x = Tried.made().posts(9, 9, 8, 8).with("clear").posts(0, 0, 0, 0, 61, 0).row(0, 0, 60, 0, 60, 0, 5, 5);
        x.due(1, "take", 0, 0).due(2, "total", 0).due(3, "post", 30, 0).due(2, "lay");
        x.due(-9, "fence", 0, 1).due(0, "fence", 0, 2).due(1, "fence", 1, 2).due(-1, "degree", 3);
        for (int first = 0; first < 8; first++) {
            theGreatestFrom(first);
        }
    }

    /** The outermost posts of MOST are 0, 1 and 3: laid from another post on, they have other numbers. */
    private static void theGreatestFrom(int first) {
        int[] places = new int[16];
        for (int i = 0; i < 16; i++) {
            places[i] = Tried.MOST[(2 * first + i) % 16];
        }
        Tried x = Tried.laid(places).due(150, "count");
        int[] outermost = {(8 - first) % 8, (9 - first) % 8, (11 - first) % 8};
        for (int i = 0; i < 3; i++) {
            x.due(1, "kind", x.ask("fence", outermost[i], outermost[(i + 1) % 3]));
        }
        x.due(3, "total", 3);
    }

    public static void main(String[] args) {
        theUse();
        aNewObject();
        whichSheets();
        missing();
        rows();
        sheet();
        tear();
        lowestBits();
        put();
        at();
        places();
        post();
        take();
        clear();
        lay();
        theGround();
        Sentences.end();
    }
}
