import java.util.List;
import java.util.function.Supplier;

/**
 * What is refused or found changes nothing but counts: of two objects made alike, one has the call
 * more, and all that both tell from then on is the same, but for the findings. In each row several
 * refusals may hold at once: due is the one that is told first.
 */
public final class RefusalBoundaryTests {
    private static final int MIN = Tried.MIN;
    private static final int MAX = Tried.MAX;
    private static final int UNKNOWN = -1, BAD = -2, STATE = -3, FULL = -4, NONE = -9;
    private static final int NULL = -11, PLACE = -12, CAST = -13, SIZE = -14;

    /** What is collected anew in each of the objects. */
    private static final int[] FOUR = {0, 0, 9, 1, 9, 9, 1, 9};

    private record Row(long due, String call, long... with) {
    }

    private static Tried sheetsOf(Tried x) {
        return x.row(0, 0, 9, 3, 61).row(2, 3, 5, 1L << 32, 9, 9, 1).with("sheet", 3, 1, 0).with("tear", 4);
    }

    /** Nothing but sheets and posts. */
    private static Tried withoutAGround() {
        return sheetsOf(Tried.collected(FOUR));
    }

    /** PENTAGON at 701, after one go and two turns; 01 held, 14 barred; 3 ASKED; weights, sheets, posts. */
    private static Tried busy() {
        Tried x = Tried.laid(Tried.PENTAGON).with("tell", 0, 1).with("tell", 6, 2);
        for (int f = 0; f < 10; f++) {
            x.with("weigh", f, 10 * f - 45);
        }
        x.with("clear").posts(FOUR).with("go", 2).with("turn", 8).with("turn", 1);
        return sheetsOf(x);
    }

    /** As busy, with all eight posts collected, and ten to go back to, of which the oldest gave way. */
    private static Tried full() {
        Tried x = busy().posts(20, 1, 30, 2, 40, 4, 50, 8);
        for (int i = 0; i < 13; i++) {
            x.with("go", i % 3);
        }
        return x.with("go", 1);
    }

    /** Without fences to turn or posts to lay, and with nothing to go back to. */
    private static Tried bare() {
        return Tried.laid(Tried.LINE).with("clear").posts(1, 1, 2, 2);
    }

    private static void changeNothing(Supplier<Tried> maker, List<Row> rows, int... collected) {
        for (Row row : rows) {
            Tried with = maker.get();
            Tried without = maker.get();
            boolean isFound = row.due <= NULL && row.due >= SIZE;
            long findings = without.ask("total", 7);
            with.due(row.due, row.call, row.with).due(findings + (isFound ? 1 : 0), "total", 7);
            String told = Tried.told(row.call, row.with);
            Sentences.same("after " + told, State.of(with, collected), State.of(without, collected));
        }
    }

    private static int[] and(int[] places, int... more) {
        int[] all = java.util.Arrays.copyOf(places, places.length + more.length);
        System.arraycopy(more, 0, all, places.length, more.length);
        return all;
    }

    private static Row row(long due, String call, long... with) {
        return new Row(due, call, with);
    }

    /** What is refused or found of sheets and posts, whether there is a ground or not. */
    private static List<Row> ofSheets() {
        return List.of(row(PLACE, "sheet", -1, 9, -1), row(PLACE, "sheet", 4, 9, 21), row(PLACE, "sheet", 4, 0, -1),
                row(PLACE, "sheet", MIN, 0, 1), row(PLACE, "sheet", MAX, -1, MAX), row(BAD, "sheet", 0, -1, -1),
                row(BAD, "sheet", 0, 4, 3), row(BAD, "sheet", 0, 0, 21), row(BAD, "sheet", 1, 4, -1),
                row(BAD, "sheet", 3, 3, MAX), row(SIZE, "sheet", 0, 0, -1), row(SIZE, "sheet", 1, 3, MIN),
                row(SIZE, "sheet", 2, 3, -1), row(PLACE, "tear", -1), row(PLACE, "tear", 4), row(PLACE, "tear", MIN),
                row(1, "tear", 1), row(PLACE, "put", -1, 0, 5), row(PLACE, "put", 4, 99, 5), row(NULL, "put", 1, 0, 5),
                row(NULL, "put", 1, -1, 5), row(NULL, "put", 1, 20, 5), row(PLACE, "put", 0, 3, 5),
                row(PLACE, "put", 0, -1, 5), row(PLACE, "put", 3, 0, 5), row(PLACE, "put", 2, 5, 5),
                row(PLACE, "at", -1, 9, 0), row(PLACE, "at", 4, 0, 0), row(BAD, "at", 1, 4, 0), row(BAD, "at", 0, -1, 9),
                row(BAD, "at", 3, 4, 0), row(NULL, "at", 1, 0, 0), row(NULL, "at", 1, 3, -1), row(CAST, "at", 0, 1, 0),
                row(CAST, "at", 0, 3, 9), row(CAST, "at", 3, 0, -1), row(PLACE, "at", 0, 0, 3),
                row(PLACE, "at", 3, 1, 0), row(PLACE, "at", 2, 3, 5), row(PLACE, "at", 2, 3, MIN),
                row(PLACE, "take", -1, 0), row(PLACE, "take", 4, 99), row(NULL, "take", 1, 0), row(NULL, "take", 1, 99),
                row(NULL, "take", 1, -1), row(PLACE, "take", 0, 4), row(PLACE, "take", 0, -1), row(PLACE, "take", 3, 1),
                row(PLACE, "take", 2, MAX), row(0, "take", 0, 2), row(0, "take", 0, 3), row(0, "take", 0, 1),
                row(0, "take", 3, 0), row(0, "take", 2, 0), row(0, "take", 2, 1), row(0, "take", 2, 2),
                row(BAD, "post", -1, 0), row(BAD, "post", 0, 61), row(BAD, "post", 61, 0), row(BAD, "post", 0, -1),
                row(BAD, "post", 61, 61), row(BAD, "post", MIN, 9), row(BAD, "post", 9, MAX), row(STATE, "post", 0, 0),
                row(STATE, "post", 9, 9), row(STATE, "post", 1, 9), row(BAD, "total", -1), row(BAD, "total", 9));
    }

    /** What is refused of a ground, if there is none: BAD ahead, all else behind. */
    private static List<Row> ofNoGround() {
        return List.of(row(STATE, "fence", 0, 1), row(STATE, "fence", -1, 9), row(BAD, "end", 0, 2),
                row(BAD, "end", -1, -1), row(STATE, "end", 0, 0), row(STATE, "end", 99, 1), row(STATE, "kind", 0),
                row(STATE, "kind", -1), row(BAD, "weightAs", 0, 5), row(BAD, "weightAs", 99, -1),
                row(STATE, "weightAs", 0, 0), row(STATE, "weightAs", 0, 4), row(STATE, "weightAs", 99, 3),
                row(STATE, "crosses", 0, 1), row(STATE, "crosses", -1, 99), row(BAD, "tell", 0, 3),
                row(BAD, "tell", 99, -1), row(STATE, "tell", 0, 0), row(STATE, "tell", 0, 1), row(STATE, "tell", -1, 2),
                row(BAD, "weigh", 0, 1001), row(BAD, "weigh", 99, -1001), row(STATE, "weigh", 0, 1000),
                row(STATE, "weigh", -1, -1000), row(STATE, "cutting"), row(STATE, "has", 0), row(STATE, "has", 99),
                row(STATE, "thirds"), row(BAD, "third", 0, 3), row(BAD, "third", 0, -1), row(STATE, "third", 0, 0),
                row(STATE, "third", -1, 2), row(STATE, "degree", 0), row(STATE, "degree", 8), row(STATE, "turns", 0),
                row(STATE, "turns", -1), row(STATE, "turn", 0), row(STATE, "turn", 99), row(STATE, "back"),
                row(STATE, "count"), row(STATE, "rank"), row(STATE, "of", 0), row(STATE, "of", -1), row(STATE, "go", 0),
                row(STATE, "go", 99), row(STATE, "sure", 0), row(STATE, "sure", -1), row(STATE, "best", 0),
                row(STATE, "best", 1), row(STATE, "bestRank", 0), row(STATE, "bestRank", 1), row(STATE, "apart", 0),
                row(STATE, "apart", -1), row(STATE, "way", 0), row(STATE, "way", 99), row(STATE, "far"),
                row(STATE, "crossings", 0), row(STATE, "crossings", -1));
    }

    /** What is refused or found of the ground of busy, which is at 701. */
    private static List<Row> ofAGround() {
        return List.of(row(UNKNOWN, "fence", 5, 0), row(UNKNOWN, "fence", 0, -1), row(UNKNOWN, "fence", MIN, MAX),
                row(NONE, "fence", 2, 2), row(BAD, "end", 10, 2), row(BAD, "end", 0, -1), row(UNKNOWN, "end", 10, 0),
                row(UNKNOWN, "end", -1, 1), row(UNKNOWN, "kind", 10), row(UNKNOWN, "kind", -1),
                row(BAD, "weightAs", 10, 5), row(BAD, "weightAs", 0, -1), row(UNKNOWN, "weightAs", 10, 4),
                row(UNKNOWN, "weightAs", -1, 0), row(CAST, "weightAs", 0, 1), row(CAST, "weightAs", 0, 2),
                row(CAST, "weightAs", 6, 4), row(CAST, "weightAs", 2, 1), row(CAST, "weightAs", 3, 3),
                row(UNKNOWN, "crosses", 10, 0), row(UNKNOWN, "crosses", 0, -1), row(UNKNOWN, "crosses", MAX, MIN),
                row(BAD, "tell", 0, 3), row(BAD, "tell", 10, -1), row(BAD, "tell", 1, MAX), row(UNKNOWN, "tell", 10, 0),
                row(UNKNOWN, "tell", 10, 1), row(UNKNOWN, "tell", -1, 2), row(STATE, "tell", 1, 1),
                row(STATE, "tell", 8, 1), row(STATE, "tell", 6, 1), row(STATE, "tell", 0, 2), row(STATE, "tell", 5, 2),
                row(STATE, "tell", 2, 2), row(BAD, "weigh", 10, 1001), row(BAD, "weigh", 0, -1001),
                row(BAD, "weigh", 3, MIN), row(UNKNOWN, "weigh", 10, 1000), row(UNKNOWN, "weigh", -1, -1000),
                row(UNKNOWN, "has", 10), row(UNKNOWN, "has", -1), row(BAD, "third", 99, 3), row(BAD, "third", 0, -1),
                row(NONE, "third", 3, 0), row(NONE, "third", -1, 2), row(UNKNOWN, "degree", 5),
                row(UNKNOWN, "degree", -1), row(UNKNOWN, "turns", 10), row(UNKNOWN, "turns", -1), row(NONE, "turns", 0),
                row(NONE, "turns", 1), row(NONE, "turns", 2), row(UNKNOWN, "turn", 10), row(UNKNOWN, "turn", -1),
                row(STATE, "turn", 0), row(STATE, "turn", 1), row(STATE, "turn", 2), row(STATE, "turn", 6),
                row(STATE, "turn", 9), row(UNKNOWN, "of", 3), row(UNKNOWN, "of", -1), row(UNKNOWN, "go", 3),
                row(UNKNOWN, "go", -1), row(UNKNOWN, "go", MAX), row(UNKNOWN, "sure", 10), row(UNKNOWN, "sure", -1),
                row(UNKNOWN, "apart", 3), row(UNKNOWN, "apart", -1), row(UNKNOWN, "way", 3), row(UNKNOWN, "way", -1),
                row(UNKNOWN, "crossings", 3), row(UNKNOWN, "crossings", -1));
    }

    /** What only asks, and is answered. */
    private static List<Row> questions() {
        return List.of(row(3, "at", 0, 0, 1), row(5, "fence", 1, 3), row(3, "end", 5, 1), row(4, "kind", 0),
                row(-45, "weightAs", 0, 4), row(1, "crosses", 5, 8), row(701, "cutting"), row(1, "has", 5),
                row(3, "thirds"), row(4, "third", 1, 2), row(4, "degree", 3), row(1, "turns", 5), row(3, "count"),
                row(1, "rank"), row(923, "of", 2), row(0, "sure", 6), row(2, "apart", 2), row(5, "way", 2), row(2, "far"),
                row(3, "crossings", 2), row(5, "best", 1), row(-55, "best", 0), row(2, "bestRank", 1),
                row(0, "bestRank", 0), row(3, "total", 6));
    }

    private static void nothingChanges() {
        Sentences.sentence("Terms 3", "Of several what is told first. What is refused, found changes nothing but counts.");
        changeNothing(RefusalBoundaryTests::withoutAGround, ofSheets(), FOUR);
        changeNothing(RefusalBoundaryTests::withoutAGround, ofNoGround(), FOUR);
        changeNothing(RefusalBoundaryTests::busy, ofSheets(), FOUR);
        changeNothing(RefusalBoundaryTests::busy, ofAGround(), FOUR);
        int[] eight = and(FOUR, 20, 1, 30, 2, 40, 4, 50, 8);
        changeNothing(RefusalBoundaryTests::full, ofSheets(), eight);
        changeNothing(RefusalBoundaryTests::full, ofAGround(), eight);
        changeNothing(RefusalBoundaryTests::full, List.of(row(FULL, "post", 0, 9), row(FULL, "post", 60, 60),
                row(STATE, "post", 50, 8), row(BAD, "post", 61, 8), row(0, "take", 2, 2), row(0, "take", 0, 0)), eight);
        changeNothing(RefusalBoundaryTests::bare, List.of(row(STATE, "lay"), row(STATE, "back"), row(STATE, "turn", 0),
                row(STATE, "turn", 1), row(UNKNOWN, "turn", 2), row(UNKNOWN, "go", 1), row(STATE, "tell", 0, 2),
                row(CAST, "weightAs", 1, 2), row(NULL, "put", 0, 0, 0), row(NONE, "way", 0), row(NONE, "third", 0, 0),
                row(NONE, "fence", 0, 2), row(UNKNOWN, "degree", 3)), 1, 1, 2, 2);
        changeNothing(Tried::made, List.of(row(STATE, "lay"), row(0, "clear"), row(1, "tear", 0), row(1, "tear", 3)));
    }

    private static void questionsChangeNothing() {
        Sentences.sentence("Not promised", "Nothing is promised beyond the answers and state changes described above");
        changeNothing(RefusalBoundaryTests::busy, questions(), FOUR);
    }

    private static void counts() {
        Sentences.sentence("Terms 3", "each is counted.");
        Tried x = Tried.laid(Tried.SQUARE).row(0, 0, 1);
        x.due(PLACE, "sheet", 4, 0, 0).due(1, "total", 7).due(SIZE, "sheet", 0, 0, -1).due(2, "total", 7);
        x.due(PLACE, "tear", -1).due(3, "total", 7).due(PLACE, "put", 4, 0, 0).due(4, "total", 7);
        x.due(NULL, "put", 1, 0, 0).due(5, "total", 7).due(PLACE, "put", 0, 1, 0).due(6, "total", 7);
        x.due(PLACE, "at", 4, 0, 0).due(7, "total", 7).due(NULL, "at", 1, 0, 0).due(8, "total", 7);
        x.due(CAST, "at", 0, 1, 0).due(9, "total", 7).due(PLACE, "at", 0, 0, 1).due(10, "total", 7);
        x.due(PLACE, "take", 4, 0).due(11, "total", 7).due(NULL, "take", 1, 0).due(12, "total", 7);
        x.due(PLACE, "take", 0, 2).due(13, "total", 7).due(CAST, "weightAs", 0, 4).due(14, "total", 7);
        x.with("lay").with("clear").with("go", 0).with("back").with("tell", 0, 0).with("tear", 0).due(14, "total", 7);
        Sentences.sentence("Terms 3", "REFUSALS: UNKNOWN -1");
        x = Tried.laid(Tried.SQUARE).with("post", 0, 0).with("post", 61, 0).with("end", 9, 0).with("end", 0, 2);
        x.with("turn", 0).with("back").with("go", 2).with("tell", 0, 2).with("weigh", 0, 1001).with("total", 9);
        x.with("sheet", 0, 4, 0).with("sheet", 0, 0, 21).with("at", 0, 4, 0).with("fence", 0, 0).with("turns", 0);
        x.with("third", 2, 0).with("way", 0).with("clear").with("lay").posts(Tried.OCTAGON).with("post", 9, 9);
        x.due(0, "total", 7).row(0, 0, 1, 0, 61, 1).due(0, "take", 0, 0).due(0, "take", 0, 2).due(0, "total", 7);
    }

    private static void constants() {
        Sentences.sentence("Terms 3", "FINDINGS, by the machine: NULL -11");
        Sentences.due("NULL", FenceTurns.NULL, -11);
        Sentences.due("PLACE", FenceTurns.PLACE, -12);
        Sentences.due("CAST", FenceTurns.CAST, -13);
        Sentences.due("SIZE", FenceTurns.SIZE, -14);
        Sentences.sentence("Terms 3", "BAD -2, STATE -3");
        Sentences.due("UNKNOWN", FenceTurns.UNKNOWN, -1);
        Sentences.due("BAD", FenceTurns.BAD, -2);
        Sentences.due("STATE", FenceTurns.STATE, -3);
        Sentences.sentence("Terms 3", ", FULL -4.");
        Sentences.due("FULL", FenceTurns.FULL, -4);
        Sentences.sentence("Terms 3", "NONE is -9.");
        Sentences.due("NONE", FenceTurns.NONE, -9);
    }

    public static void main(String[] args) {
        nothingChanges();
        questionsChangeNothing();
        counts();
        constants();
        Sentences.end();
    }
}
