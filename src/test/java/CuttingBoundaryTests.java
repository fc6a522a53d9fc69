import java.util.ArrayDeque;
import java.util.Arrays;
import java.util.Deque;

/** The boundary cases that the document's sentences name: the cutting at hand, turns, going back. */
public final class CuttingBoundaryTests {
    private static final int MIN = Tried.MIN;
    private static final int MAX = Tried.MAX;
    /** Post 4 is on the lines of 0 and 2, and of 1 and 3: one cutting of 8 fences. */
    private static final int[] MIDDLE_LAST = {0, 0, 8, 0, 8, 8, 0, 8, 4, 4};
    private static final int[] MIDDLE_FIRST = {4, 4, 0, 0, 8, 0, 8, 8, 0, 8};
    private static final int[] TOP_OF_MIDDLE = {30, 0, 0, 0, 60, 0, 30, 30};
    private static final int[] EIGHT_IN_LINE = {0, 0, 1, 1, 2, 2, 3, 3, 4, 4, 5, 5, 6, 6, 60, 60};

    private static void cutting() {
        Sentences.sentence("Promise 17", "THE CUTTING. STATE (as longs).");
        Tried.made().due(-3, "cutting").due(-3, "cutting").due(0, "total", 7);
        Tried.collected(Tried.SQUARE).due(-3, "cutting").with("lay").due(47, "cutting");
        Tried.laid(Tried.LINE).due(3, "cutting");
        Tried.laid(Tried.TRIANGLE).due(7, "cutting");
        Tried.laid(Tried.HAIR).due(31, "cutting").with("go", 1).due(62, "cutting");
        Tried.laid(EIGHT_IN_LINE).due(127, "cutting");
        Sentences.sentence("Terms 2", "THE CUTTING is one that is ASKED.");
        Tried x = Tried.laid(Tried.PENTAGON).with("go", 3);
        for (int f = 0; f < 10; f++) {
            x.with("tell", f, 2).with("tell", f, 1).due(923, "cutting").due(923, "of", x.ask("rank"));
        }
        x.due(1, "count").due(0, "rank").due(7, "total", 4).due(3, "total", 5);
        Sentences.sentence("Promise 18", "Whether THE CUTTING has a FENCE: 1, 0. STATE; UNKNOWN.");
        Tried.made().due(-3, "has", 0).due(-3, "has", -1).due(-3, "has", 99);
        x = Tried.laid(Tried.OCTAGON).due(1, "has", 0).due(1, "has", 27).due(0, "has", 26);
        for (long no : Tried.noneOf(28)) {
            x.due(-1, "has", no);
        }
        x = Tried.laid(Tried.SQUARE).due(1, "has", 1).due(0, "has", 4).with("turn", 1).due(0, "has", 1)
                .due(1, "has", 4);
        for (long no : Tried.noneOf(6)) {
            x.due(-1, "has", no);
        }
    }

    private static void whatIsAThird() {
        Sentences.sentence("Terms 1", "A THIRD of it: three POSTS, not in one line, all three FENCES of which are in it,"
                + " with no POST within the three sides (on them there is none).");
        thirds(Tried.LINE);
        thirds(EIGHT_IN_LINE);
        thirds(Tried.TRIANGLE, 0, 1, 2);
        thirds(Tried.SQUARE, 0, 1, 2, 0, 2, 3);
        thirds(Tried.ROW_AND_TOP, 0, 1, 3, 1, 2, 3);
        thirds(Tried.KITE, 0, 1, 4, 0, 3, 4, 1, 2, 3, 1, 3, 4);
        thirds(Tried.HAIR, 0, 1, 2, 0, 1, 3);
        thirds(Tried.HAIR_WITHIN, 0, 1, 3, 0, 2, 3, 1, 2, 3);
        thirds(new int[] {1, 1, 0, 60, 60, 59, 0, 0}, 0, 1, 2, 0, 1, 3, 0, 2, 3);
        thirds(MIDDLE_LAST, 0, 1, 4, 0, 3, 4, 1, 2, 4, 2, 3, 4);
        thirds(new int[] {0, 0, 60, 1, 59, 1}, 0, 1, 2);
        thirdsHaveTheirFences();
    }

    /** Eight posts of which two are parted by a third on their line, whatever their order. */
    private static void thirdsHaveTheirFences() {
        int[][] triples = {{0, 0, 60, 0, 60, 60, 30, 30}, {60, 0, 0, 0, 60, 60, 30, 30}, {0, 0, 60, 60, 60, 0, 30, 30},
            {30, 30, 60, 0, 0, 0, 60, 60}};
        for (int[] triple : triples) {
            int[] places = Arrays.copyOf(triple, 16);
            System.arraycopy(new int[] {0, 58, 10, 42, 5, 20, 20, 50}, 0, places, 8, 8);
            long count = Tried.laid(places).due(27, "total", 2).ask("count");
            for (int r = 0; r < count; r += 3) {
                Tried x = Tried.laid(places).with("go", r).due(10, "thirds");
                for (int i = 0; i < 10; i++) {
                    thirdHasItsFences(x, i);
                }
            }
        }
    }

    private static void thirdHasItsFences(Tried x, int i) {
        long least = x.ask("third", i, 0);
        long next = x.ask("third", i, 1);
        long greatest = x.ask("third", i, 2);
        x.due(1, "has", x.ask("fence", least, next)).due(1, "has", x.ask("fence", least, greatest));
        x.due(1, "has", x.ask("fence", next, greatest));
    }

    private static void thirds(int[] places, int... corners) {
        Tried x = Tried.laid(places).due(corners.length / 3, "thirds");
        for (int i = 0; i < corners.length; i++) {
            x.due(corners[i], "third", i / 3, i % 3);
        }
        for (int what = 0; what <= 2; what++) {
            x.due(-9, "third", corners.length / 3, what).due(-9, "third", -1, what);
        }
    }

    private static void third() {
        Sentences.sentence("Promise 19", "How many THIRDS it has. STATE.");
        Tried.made().due(-3, "thirds");
        Tried.collected(Tried.SQUARE).due(-3, "thirds").with("lay").due(2, "thirds").with("turn", 1).due(2, "thirds");
        Tried.laid(Tried.OCTAGON).due(6, "thirds").with("go", 131).due(6, "thirds");
        Tried.laid(Tried.MOST).due(11, "thirds").with("go", 149).due(11, "thirds");
        Tried.laid(Tried.LINE).due(0, "thirds");
        Sentences.sentence("Promise 20", "THIRD i, by its least POST, then the next one, then the greatest: the least"
                + " (what = 0), the next (1), the greatest (2); NONE.");
        for (int r : new int[] {0, 1, 74, 148, 149}) {
            Tried x = Tried.laid(Tried.MOST).with("go", r);
            long last = -1;
            for (int i = 0; i < 11; i++) {
                long least = x.ask("third", i, 0);
                long next = x.ask("third", i, 1);
                long greatest = x.ask("third", i, 2);
                long place = least * 64 + next * 8 + greatest;
                boolean isInOrder = least < next && next < greatest && place > last;
                Sentences.due("third(" + i + ", 0 .. 2) is in order", isInOrder ? 1 : 0, 1);
                thirdHasItsFences(x, i);
                last = place;
            }
            for (int what = 0; what <= 2; what++) {
                for (long no : new long[] {-1, 11, 12, MIN, MAX}) {
                    x.due(-9, "third", no, what);
                }
            }
        }
        Sentences.sentence("Promise 20", "BAD: what; STATE.");
        Tried x = Tried.laid(Tried.TRIANGLE);
        for (int what : new int[] {-1, 3, 4, MIN, MAX}) {
            x.due(-2, "third", 0, what).due(-2, "third", 1, what).due(-2, "third", -1, what);
            Tried.made().due(-2, "third", 0, what).due(-2, "third", 1, what).due(-2, "third", -1, what);
        }
        for (int what = 0; what <= 2; what++) {
            Tried.made().due(-3, "third", 0, what).due(-3, "third", -1, what).due(-3, "third", 99, what);
        }
        x.due(0, "third", 0, 0).due(1, "third", 0, 1).due(2, "third", 0, 2).due(0, "total", 7);
    }

    private static void degree() {
        Sentences.sentence("Promise 21", "How many FENCES of THE CUTTING are at a POST. STATE; UNKNOWN.");
        Tried.made().due(-3, "degree", 0).due(-3, "degree", -1).due(-3, "degree", 8);
        Tried.collected(Tried.SQUARE).due(-3, "degree", 0);
        Tried.laid(Tried.LINE).due(1, "degree", 0).due(2, "degree", 1).due(1, "degree", 2).due(-1, "degree", 3);
        Tried.laid(Tried.SQUARE).due(3, "degree", 0).due(2, "degree", 1).due(3, "degree", 2).due(2, "degree", 3)
                .with("turn", 1).due(2, "degree", 0).due(3, "degree", 1).due(2, "degree", 2).due(3, "degree", 3);
        Tried x = Tried.laid(Tried.OCTAGON).due(7, "degree", 0).due(2, "degree", 1).due(2, "degree", 7);
        for (long no : Tried.noneOf(8)) {
            x.due(-1, "degree", no);
        }
        x = Tried.laid(Tried.SQUARE).with("post", 9, 9).due(-1, "degree", 4).with("clear").due(3, "degree", 0);
        for (long no : Tried.noneOf(4)) {
            x.due(-1, "degree", no);
        }
    }

    private static void whatIsFree() {
        Sentences.sentence("Terms 2", "A TURN of a FENCE a, b that is in it, in two THIRDS with POSTS c, d: FREE, if c and"
                + " d are on unlike sides of its line,");
        turns(Tried.laid(Tried.LINE), -9, -9);
        turns(Tried.laid(Tried.TRIANGLE), -9, -9, -9);
        turns(Tried.laid(Tried.SQUARE), -9, 4, -9, -9, -9, -9);
        turns(Tried.laid(Tried.SQUARE).with("go", 1), -9, -9, -9, -9, 1, -9);
        turns(Tried.laid(Tried.PENTAGON), -9, 5, 8, -9, -9, -9, -9, -9, -9, -9);
        Sentences.sentence("Terms 2", "a and b are on unlike sides of the line of c and d (on neither on it)");
        turns(Tried.laid(Tried.HAIR), 5, -9, -9, -9, -9, -9);
        turns(Tried.laid(Tried.HAIR).with("turn", 0), -9, -9, -9, -9, -9, 0);
        turns(Tried.laid(Tried.HAIR_WITHIN), -9, -9, -9, -9, -9, -9);
        turns(Tried.laid(MIDDLE_LAST), -9, -9, -9, -9, -9, -9, -9, -9);
        turns(Tried.laid(MIDDLE_FIRST), -9, -9, -9, -9, -9, -9, -9, -9);
        turns(Tried.laid(Tried.ROW_AND_TOP), -9, -9, -9, -9, -9);
        turns(Tried.laid(TOP_OF_MIDDLE), -9, -9, -9, -9, -9);
        turns(Tried.laid(Tried.KITE).with("go", 2), -9, -9, -9, -9, -9, -9, 1, -9, 5, -9);
        Sentences.sentence("Terms 2", "and it is not HELD, nor the FENCE c, d BARRED: that comes in its place.");
        Tried x = Tried.laid(Tried.PENTAGON).with("tell", 1, 1);
        turns(x, -9, -9, 8, -9, -9, -9, -9, -9, -9, -9);
        turns(x.with("tell", 8, 2), -9, -9, -9, -9, -9, -9, -9, -9, -9, -9);
        turns(x.with("tell", 1, 0), -9, 5, -9, -9, -9, -9, -9, -9, -9, -9);
        turns(x.with("tell", 5, 2).with("tell", 6, 2), -9, -9, -9, -9, -9, -9, -9, -9, -9, -9);
        turns(x.with("tell", 8, 0), -9, -9, 8, -9, -9, -9, -9, -9, -9, -9);
        x = Tried.laid(Tried.SQUARE).with("tell", 0, 1).with("tell", 5, 1).due(4, "turn", 1).due(61, "cutting");
        x.with("tell", 1, 2).due(-9, "turns", 4).due(-3, "turn", 4).with("tell", 1, 0).due(1, "turn", 4);
        Sentences.sentence("Terms 2", "(There is that FENCE then.)");
        for (int r = 0; r < 14; r++) {
            x = Tried.laid(Tried.HEXAGON).with("go", r);
            long cutting = x.ask("cutting");
            int free = 0;
            for (int f = 0; f < 15; f++) {
                long coming = x.ask("turns", f);
                if (coming >= 0) {
                    free++;
                    x.due(1, "crosses", f, coming).due(1, "has", f).due(0, "has", coming).due(coming, "turn", f);
                    x.due(cutting ^ 1L << f ^ 1L << coming, "cutting").due(f, "turns", coming).due(f, "turn", coming);
                }
            }
            Sentences.due("how many fences are free in of(" + r + ")", free, 3);
        }
    }

    private static void turns(Tried x, int... coming) {
        for (int f = 0; f < coming.length; f++) {
            x.due(coming[f], "turns", f);
        }
        x.due(-1, "turns", coming.length).due(0, "total", 7);
    }

    private static void turn() {
        Sentences.sentence("Promise 22", "The FENCE that would come, if one is TURNED; NONE: that is not FREE.");
        Tried x = Tried.laid(Tried.SQUARE).due(4, "turns", 1).due(4, "turns", 1).due(47, "cutting").due(0, "total", 6);
        x.due(-9, "turns", 0).due(-9, "turns", 4).due(-9, "turns", 5).due(0, "rank");
        Sentences.sentence("Promise 22", "STATE; UNKNOWN.");
        Tried.made().due(-3, "turns", 0).due(-3, "turns", -1).due(-3, "turns", 99);
        x = Tried.laid(Tried.OCTAGON);
        for (long no : Tried.noneOf(28)) {
            x.due(-1, "turns", no);
        }
        Sentences.sentence("Promise 23", "A FENCE is TURNED: the one that came.");
        x = Tried.laid(Tried.SQUARE).due(4, "turn", 1).due(61, "cutting").due(1, "total", 6).due(1, "turn", 4);
        x.due(47, "cutting").due(2, "total", 6);
        Tried.laid(Tried.HAIR).due(5, "turn", 0).due(62, "cutting").due(0, "turn", 5).due(31, "cutting");
        Sentences.sentence("Promise 23", "STATE: also, if it is not FREE; UNKNOWN ahead of that.");
        Tried.made().due(-3, "turn", 0).due(-3, "turn", -1).due(-3, "turn", 99);
        x = Tried.laid(Tried.SQUARE).due(-3, "turn", 0).due(-3, "turn", 4).due(-3, "turn", 5).due(47, "cutting");
        for (long no : Tried.noneOf(6)) {
            x.due(-1, "turn", no);
        }
        x.due(0, "total", 6).due(0, "total", 7).due(4, "turn", 1).due(-3, "turn", 1).due(1, "total", 6);
        Tried.laid(Tried.LINE).due(-3, "turn", 0).due(-3, "turn", 1).due(-1, "turn", 2);
        Tried.laid(MIDDLE_LAST).due(-3, "turn", 2).due(-3, "turn", 7).due(-1, "turn", 8);
        x = Tried.laid(Tried.SQUARE).with("tell", 1, 1).due(-3, "turn", 1).due(47, "cutting").due(0, "total", 6);
        x.with("tell", 1, 0).with("tell", 4, 2).due(-3, "turn", 1).due(47, "cutting").due(0, "total", 6);
        x.with("tell", 4, 0).due(4, "turn", 1);
    }

    /** Turns and goes, and backs, of which the past that is due is kept beside. */
    private static final class Walk {
        private final Tried object;
        private final Deque<Long> past = new ArrayDeque<>();
        private int steps;

        Walk(Tried object) {
            this.object = object;
        }

        Walk on(int many) {
            for (int i = 0; i < many; i++) {
                past.push(object.ask("cutting"));
                int rank = (5 * steps + 3) % 14;
                long fence = object.ask("way", rank);
                if (steps % 3 == 2 || fence < 0) {
                    object.due(1, "go", rank);
                } else {
                    object.with("turn", fence);
                }
                if (past.size() > 10) {
                    past.removeLast();
                }
                steps++;
                object.due(past.size(), "total", 6);
            }
            return this;
        }

        Walk back(int many) {
            for (int i = 0; i < many; i++) {
                long due = past.pop();
                object.due(past.size(), "back").due(due, "cutting").due(past.size(), "total", 6);
            }
            return this;
        }

        Walk noMore() {
            long cutting = object.ask("cutting");
            object.due(-3, "back").due(cutting, "cutting").due(0, "total", 6).due(-3, "back");
            return this;
        }
    }

    private static Walk walk() {
        return new Walk(Tried.laid(Tried.HEXAGON));
    }

    private static void back() {
        Sentences.sentence("Promise 24", "The latest turn(), go() is undone: how many are left to undo.");
        walk().on(1).back(1).noMore();
        walk().on(2).back(1).on(1).back(2).noMore();
        walk().on(6).back(3).on(2).back(5).noMore();
        Tried x = Tried.laid(Tried.SQUARE).with("go", 1).with("go", 1).due(1, "back").due(61, "cutting");
        x.due(0, "back").due(47, "cutting").due(-3, "back");
        x = Tried.laid(Tried.SQUARE).with("turn", 1).with("weigh", 0, 5).with("clear").with("post", 9, 9);
        x.with("sheet", 0, 0, 1).with("turn", 1).with("go", 2).with("tell", 4, 2).with("lay").due(1, "total", 6);
        x.due(0, "back").due(47, "cutting").due(5, "weightAs", 0, 0).due(1, "total", 0).due(1, "total", 8);
        Sentences.sentence("Promise 24", "STATE: also, if the latest 10 were, or there is none since lay(), tell().");
        Tried.made().due(-3, "back").due(0, "total", 6).due(0, "total", 7);
        Tried.collected(Tried.SQUARE).due(-3, "back").with("lay").due(-3, "back");
        walk().noMore();
        walk().on(9).back(9).noMore();
        walk().on(10).back(10).noMore();
        walk().on(11).back(10).noMore();
        walk().on(12).back(10).noMore().on(1).back(1).noMore();
        walk().on(20).back(10).noMore().on(10).back(10).noMore();
        walk().on(23).back(4).on(7).back(10).noMore();
        walk().on(10).back(10).noMore().on(11).back(10).noMore();
        Tried.laid(Tried.SQUARE).with("turn", 1).with("lay").due(0, "total", 6).due(-3, "back").due(47, "cutting");
        Tried.laid(Tried.SQUARE).with("turn", 1).with("tell", 0, 0).due(-3, "back").due(61, "cutting")
                .with("go", 0).due(0, "back").due(61, "cutting").due(-3, "back");
        for (int how = 0; how <= 2; how++) {
            x = Tried.laid(Tried.SQUARE).with("go", 0).with("tell", how == 2 ? 4 : 1, how).due(-3, "back");
        }
    }

    public static void main(String[] args) {
        cutting();
        whatIsAThird();
        third();
        degree();
        whatIsFree();
        turn();
        back();
        Sentences.end();
    }
}
