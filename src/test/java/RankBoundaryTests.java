/** The boundary cases that the document's sentences name: all cuttings, how far they are apart, totals. */
public final class RankBoundaryTests {
    private static final int MIN = Tried.MIN;
    private static final int MAX = Tried.MAX;
    private static final String[] OF_A_RANK = {"of", "go", "apart", "way", "crossings"};

    /** Two cuttings without 03, 14 and 25, {02,04,24} and {13,15,35}, and no turn of either. */
    private static Tried partedHexagon() {
        Tried x = Tried.laid(Tried.HEXAGON);
        for (int r = 0; r < 14 && x.ask("cutting") != 22075; r++) {
            x.with("go", r);
        }
        return x.due(22075, "cutting").with("tell", 2, 2).with("tell", 7, 2).due(2, "tell", 11, 2);
    }

    /** Ten cuttings, to four of which no turns lead. */
    private static Tried partedOctagon() {
        return Tried.laid(Tried.OCTAGON).with("go", 77).with("tell", 19, 2).with("tell", 5, 2).with("tell", 21, 2)
                .with("tell", 7, 1).with("tell", 14, 2).due(10, "tell", 9, 2).due(197403085, "cutting");
    }

    /** Twelve cuttings, between which turns lead the long way round what is barred. */
    private static Tried windingOctagon() {
        return Tried.laid(Tried.OCTAGON).with("go", 70).with("tell", 24, 2).with("tell", 15, 2).with("tell", 12, 1)
                .due(12, "tell", 11, 2).due(181874881, "cutting");
    }

    private static void count() {
        Sentences.sentence("Promise 25", "How many CUTTINGS are ASKED. STATE.");
        Tried.made().due(-3, "count").due(0, "total", 7);
        Tried.collected(Tried.SQUARE).due(-3, "count").with("lay").due(2, "count");
        Tried.laid(Tried.LINE).due(1, "count");
        Tried.laid(Tried.TRIANGLE).due(1, "count");
        Tried.laid(Tried.HAIR_WITHIN).due(1, "count");
        Tried.laid(Tried.OCTAGON).due(132, "count");
        Tried.laid(Tried.MOST).due(150, "count");
        Tried.laid(0, 0, 60, 0, 60, 60, 0, 60, 30, 5, 55, 30, 30, 55, 5, 30).due(30, "count");
        Tried.laid(Tried.SQUARE).with("tell", 1, 1).due(1, "count").with("tell", 4, 2).due(1, "count").with("tell", 1, 0)
                .due(1, "count").with("tell", 4, 0).due(2, "count");
        Sentences.sentence("Promise 26", "The RANK of THE CUTTING. STATE.");
        Tried.made().due(-3, "rank");
        Tried.collected(Tried.SQUARE).due(-3, "rank").with("lay").due(0, "rank").with("turn", 1).due(1, "rank")
                .with("back").due(0, "rank").with("go", 1).due(1, "rank").with("tell", 4, 1).due(0, "rank")
                .with("tell", 4, 0).due(1, "rank");
        for (int r : new int[] {0, 1, 127, 128, 148, 149}) {
            Tried.laid(Tried.MOST).with("go", r).due(r, "rank");
        }
    }

    private static void ranks() {
        Sentences.sentence("Promise 27", "The CUTTING of a RANK. STATE; UNKNOWN (as longs).");
        Tried.laid(Tried.LINE).due(3, "of", 0).due(-1, "of", 1);
        Tried.laid(Tried.SQUARE).due(47, "of", 0).due(61, "of", 1).due(-1, "of", 2);
        Tried.laid(Tried.HEXAGON).due(21055, "of", 0).due(31537, "of", 13).due(-1, "of", 14);
        Tried.laid(Tried.SQUARE).with("tell", 1, 1).due(47, "of", 0).due(-1, "of", 1);
        Tried.laid(Tried.SQUARE).with("tell", 4, 2).due(47, "of", 0).due(-1, "of", 1).with("tell", 4, 0)
                .due(61, "of", 1);
        Sentences.sentence("Promise 28", "THE CUTTING becomes the one of a RANK: 1. STATE; UNKNOWN.");
        Tried.laid(Tried.LINE).due(1, "go", 0).due(3, "cutting").due(-1, "go", 1).due(1, "total", 6);
        Tried x = Tried.laid(Tried.MOST);
        long last = x.ask("of", 149);
        x.due(1, "go", 149).due(149, "rank").due(last, "cutting");
        x.due(-1, "go", 150).due(149, "rank").due(1, "total", 6).due(1, "go", 0).due(0, "rank");
        x = Tried.laid(Tried.SQUARE).with("go", 1).with("tell", 1, 2).due(-1, "go", 1).due(61, "cutting");
        x.due(0, "total", 6).due(1, "go", 0).due(61, "cutting").due(1, "total", 6);
        Sentences.sentence("Terms 3", "UNKNOWN -1 (there is no such POST, FENCE of THE GROUND, RANK)");
        for (String call : OF_A_RANK) {
            int[][] grounds = {Tried.LINE, Tried.SQUARE, Tried.OCTAGON, Tried.MOST};
            int[] counts = {1, 2, 132, 150};
            for (int i = 0; i < grounds.length; i++) {
                x = Tried.laid(grounds[i]);
                for (long no : Tried.noneOf(counts[i])) {
                    x.due(-1, call, no);
                }
                x.due(0, "rank").due(0, "total", 6).due(0, "total", 7);
                boolean isRefused = x.ask(call, counts[i] - 1) == -1 || x.ask(call, 0) == -1;
                Sentences.due(call + " of the last rank or the first is refused", isRefused ? 1 : 0, 0);
            }
            x = Tried.laid(Tried.SQUARE).with("tell", 1, 1).due(-1, call, 1);
            Sentences.due(call + " of the one rank is refused", x.ask(call, 0) == -1 ? 1 : 0, 0);
        }
        Sentences.sentence("Terms 3", "(also: there is no GROUND, ahead of all but BAD, PLACE)");
        for (String call : OF_A_RANK) {
            for (long rank : new long[] {-1, 0, 1, 150, MIN, MAX}) {
                Tried.made().due(-3, call, rank).due(0, "total", 7);
                Tried.collected(Tried.MOST).due(-3, call, rank);
            }
        }
    }

    private static void refusedRanks() {
        Sentences.sentence("Promise 32", "STATE; UNKNOWN.");
        refusedRanks("apart");
        Sentences.sentence("Promise 33", "STATE; UNKNOWN.");
        refusedRanks("way");
        Sentences.sentence("Promise 35", "STATE; UNKNOWN.");
        refusedRanks("crossings");
    }

    /** Ranks are those of the cuttings that are asked at the time. */
    private static void refusedRanks(String call) {
        for (long rank : new long[] {0, 1, -1, 150, MIN, MAX}) {
            Tried.made().due(-3, call, rank);
            Tried.collected(Tried.SQUARE).due(-3, call, rank);
        }
        Tried x = Tried.laid(Tried.PENTAGON);
        for (long no : Tried.noneOf(5)) {
            x.due(-1, call, no);
        }
        x.with("tell", 8, 2).due(-1, call, 3).with("tell", 6, 2).due(-1, call, 2);
        Sentences.due(call + " of the last of two ranks is refused", x.ask(call, 1) == -1 ? 1 : 0, 0);
        x.with("tell", 6, 0).with("tell", 8, 0).due(-1, call, 5);
        Sentences.due(call + " of the last of five ranks is refused", x.ask(call, 4) == -1 ? 1 : 0, 0);
        x.due(671, "cutting").due(0, "total", 6).due(0, "total", 7);
    }

    private static void sure() {
        Sentences.sentence("Promise 29", "Whether a FENCE is in all that are ASKED 2, in some 1, in none 0. STATE;"
                + " UNKNOWN.");
        Tried.made().due(-3, "sure", 0).due(-3, "sure", -1).due(-3, "sure", 99);
        sures(Tried.laid(Tried.LINE), 2, 2);
        sures(Tried.laid(Tried.SQUARE), 2, 1, 2, 2, 1, 2);
        sures(Tried.laid(Tried.SQUARE).with("go", 1), 2, 1, 2, 2, 1, 2);
        sures(Tried.laid(Tried.SQUARE).with("tell", 1, 1), 2, 2, 2, 2, 0, 2);
        sures(Tried.laid(Tried.SQUARE).with("tell", 4, 2), 2, 2, 2, 2, 0, 2);
        sures(Tried.laid(Tried.SQUARE).with("tell", 0, 1), 2, 1, 2, 2, 1, 2);
        sures(Tried.laid(Tried.KITE), 2, 1, 2, 2, 2, 1, 1, 2, 1, 2);
        sures(Tried.laid(Tried.PENTAGON).with("tell", 6, 2), 2, 1, 1, 2, 2, 1, 0, 2, 1, 2);
        sures(Tried.laid(Tried.PENTAGON).with("tell", 6, 2).with("tell", 5, 2), 2, 2, 1, 2, 2, 0, 0, 2, 1, 2);
        Tried x = Tried.laid(Tried.OCTAGON).due(2, "sure", 0).due(1, "sure", 26).due(2, "sure", 27);
        for (long no : Tried.noneOf(28)) {
            x.due(-1, "sure", no);
        }
    }

    private static void sures(Tried x, int... sures) {
        for (int f = 0; f < sures.length; f++) {
            x.due(sures[f], "sure", f);
        }
        x.due(-1, "sure", sures.length).due(-1, "sure", -1);
    }

    private static void best() {
        Sentences.sentence("Promise 30", "The least (greatest = false), the greatest sum of weights of the FENCES of a"
                + " CUTTING that is ASKED. STATE.");
        Tried.made().due(-3, "best", 0).due(-3, "best", 1);
        Tried.laid(Tried.LINE).due(0, "best", 0).due(0, "best", 1).with("weigh", 1, -5).due(-5, "best", 0)
                .due(-5, "best", 1);
        Tried x = Tried.laid(Tried.MOST);
        for (int weight : new int[] {1000, -1000}) {
            for (int f = 0; f < 28; f++) {
                x.with("weigh", f, weight);
            }
            x.due(18 * weight, "best", 0).due(18 * weight, "best", 1).due(0, "bestRank", 0).due(0, "bestRank", 1);
        }
        x = Tried.laid(Tried.SQUARE).with("weigh", 1, 1).due(0, "best", 0).due(1, "best", 1).with("weigh", 4, -1);
        x.due(-1, "best", 0).due(1, "best", 1).with("go", 1).due(-1, "best", 0).due(1, "best", 1);
        x.with("tell", 1, 2).due(-1, "best", 0).due(-1, "best", 1).with("weigh", 1, 1000).due(-1, "best", 1);
        x.with("tell", 1, 0).due(1000, "best", 1).with("weigh", 0, 7).due(1007, "best", 1).due(6, "best", 0);
        Sentences.sentence("Promise 31", "The least RANK of those with that sum. STATE.");
        Tried.made().due(-3, "bestRank", 0).due(-3, "bestRank", 1);
        Tried.laid(Tried.LINE).due(0, "bestRank", 0).due(0, "bestRank", 1);
        x = Tried.laid(Tried.PENTAGON).due(0, "bestRank", 0).due(0, "bestRank", 1).with("go", 4);
        x.due(0, "bestRank", 0).due(0, "bestRank", 1).with("weigh", 6, 1).due(2, "bestRank", 1).due(0, "bestRank", 0);
        x.with("weigh", 6, -1).due(2, "bestRank", 0).due(0, "bestRank", 1).with("weigh", 6, 0).with("weigh", 8, 1);
        x.due(3, "bestRank", 1).due(0, "bestRank", 0).with("weigh", 8, -1).due(3, "bestRank", 0).due(0, "bestRank", 1);
        x.with("weigh", 6, -1).due(4, "bestRank", 0).due(-2, "best", 0).due(0, "bestRank", 1).due(0, "best", 1);
        x.with("weigh", 1, -1).due(1, "bestRank", 1).due(3, "bestRank", 0).with("tell", 1, 2).due(2, "bestRank", 0);
        x.due(0, "bestRank", 1).due(0, "best", 1).due(-2, "best", 0).with("tell", 5, 2).due(0, "bestRank", 1);
        x.due(1, "count").due(-2, "best", 1).due(-2, "best", 0);
    }

    private static void apart() {
        Sentences.sentence("Promise 32", "How far THE CUTTING is APART from the one of a RANK; NONE: no TURNS lead there.");
        Tried.laid(Tried.LINE).due(0, "apart", 0);
        Tried.laid(Tried.SQUARE).due(0, "apart", 0).due(1, "apart", 1).with("go", 1).due(1, "apart", 0)
                .due(0, "apart", 1);
        Tried.laid(Tried.SQUARE).with("tell", 1, 1).due(0, "apart", 0);
        each(Tried.laid(Tried.HAIR), "apart", 0, 1);
        each(Tried.laid(Tried.HAIR).with("go", 1), "apart", 1, 0);
        each(Tried.laid(Tried.PENTAGON), "apart", 0, 1, 2, 1, 2);
        each(Tried.laid(Tried.KITE), "apart", 0, 2, 1);
        each(partedHexagon(), "apart", 0, -9);
        each(partedHexagon().with("go", 1), "apart", -9, 0);
        each(partedOctagon(), "apart", -9, -9, -9, -9, 1, 0, 3, 2, 2, 1);
        each(windingOctagon(), "apart", 1, 3, 2, 1, 0, 2, 1, 6, 7, 5, 4, 3);
        Sentences.sentence("Terms 2", "APART: the fewest TURNS, each FREE as it is done, that lead from one CUTTING to"
                + " another one.");
        Tried x = windingOctagon();
        for (int left = 7; left > 0; left--) {
            long fence = x.due(left, "apart", 8).ask("way", 8);
            long coming = x.ask("turns", fence);
            x.due(coming, "turn", fence);
        }
        x.due(0, "apart", 8).due(239367873, "cutting").due(7, "total", 6);
        x = windingOctagon().with("tell", 11, 0).with("tell", 15, 0).with("tell", 24, 0).with("tell", 12, 0);
        x.due(5, "apart", rankOf(x, 239367873));
    }

    private static long rankOf(Tried x, long cutting) {
        long low = 0;
        long high = x.ask("count") - 1;
        while (low < high) {
            long middle = (low + high) / 2;
            if (x.ask("of", middle) < cutting) {
                low = middle + 1;
            } else {
                high = middle;
            }
        }
        return low;
    }

    private static void each(Tried x, String call, int... due) {
        for (int r = 0; r < due.length; r++) {
            x.due(due[r], call, r);
        }
        x.due(-1, call, due.length).due(-1, call, -1).due(0, "total", 7);
    }

    private static void way() {
        Sentences.sentence("Promise 33", "The least FENCE of THE CUTTING by whose TURN it is one TURN less APART from the"
                + " one of a RANK; NONE: it is that, or no TURNS lead there.");
        Tried.laid(Tried.LINE).due(-9, "way", 0);
        Tried.laid(Tried.SQUARE).due(-9, "way", 0).due(1, "way", 1).with("go", 1).due(4, "way", 0).due(-9, "way", 1);
        Tried.laid(Tried.SQUARE).with("tell", 1, 1).due(-9, "way", 0);
        each(Tried.laid(Tried.HAIR), "way", -9, 0);
        each(Tried.laid(Tried.HAIR).with("go", 1), "way", 5, -9);
        each(Tried.laid(Tried.PENTAGON), "way", -9, 1, 1, 2, 2);
        each(Tried.laid(Tried.KITE), "way", -9, 5, 5);
        each(partedHexagon(), "way", -9, -9);
        each(partedHexagon().with("go", 1), "way", -9, -9);
        each(partedOctagon(), "way", -9, -9, -9, -9, 8, -9, 8, 23, 8, 23);
        each(windingOctagon(), "way", 23, 16, 16, 20, -9, 16, 16, 16, 16, 16, 16, 16);
        Tried.laid(Tried.HEXAGON).due(3, "apart", 13).due(3, "way", 13).due(-3, "turn", 5);
        for (int r = 0; r < 14; r++) {
            Tried x = Tried.laid(Tried.HEXAGON).with("go", r);
            int to = (r + 7) % 14;
            long apart = x.ask("apart", to);
            long way = x.ask("way", to);
            long least = -9;
            for (int f = 14; f >= 0; f--) {
                if (x.ask("turn", f) >= 0) {
                    least = x.ask("apart", to) == apart - 1 ? f : least;
                    x.with("back");
                }
            }
            Sentences.due("from " + r + ", way(" + to + ")", way, least);
        }
    }

    private static void far() {
        Sentences.sentence("Promise 34", "The most that THE CUTTING is APART from one that is ASKED (of those to which TURNS"
                + " lead). STATE.");
        Tried.made().due(-3, "far").due(0, "total", 7);
        Tried.collected(Tried.SQUARE).due(-3, "far").with("lay").due(1, "far").with("tell", 1, 1).due(0, "far");
        Tried.laid(Tried.LINE).due(0, "far");
        Tried.laid(Tried.TRIANGLE).due(0, "far");
        Tried.laid(Tried.HAIR).due(1, "far").with("go", 1).due(1, "far");
        Tried.laid(Tried.KITE).due(2, "far").with("go", 1).due(2, "far").with("go", 2).due(1, "far");
        Tried.laid(Tried.PENTAGON).due(2, "far").with("tell", 8, 2).due(2, "far").with("turn", 1).due(1, "far");
        partedHexagon().due(0, "far").with("go", 1).due(0, "far");
        partedOctagon().due(3, "far");
        windingOctagon().due(7, "far");
    }

    private static void crossings() {
        Sentences.sentence("Promise 35", "How many pairs of a FENCE of THE CUTTING and one of the one of a RANK CROSS.");
        Tried.laid(Tried.LINE).due(0, "crossings", 0);
        Tried.laid(Tried.SQUARE).due(0, "crossings", 0).due(1, "crossings", 1).with("go", 1).due(1, "crossings", 0)
                .due(0, "crossings", 1);
        each(Tried.laid(Tried.HAIR), "crossings", 0, 1);
        each(Tried.laid(Tried.HAIR).with("go", 1), "crossings", 1, 0);
        each(Tried.laid(Tried.PENTAGON), "crossings", 0, 1, 3, 1, 3);
        each(Tried.laid(Tried.KITE), "crossings", 0, 3, 1);
        each(partedHexagon(), "crossings", 0, 6);
        Tried.laid(Tried.HEXAGON).due(6, "crossings", 13).with("go", 13).due(6, "crossings", 0).due(0, "crossings", 13);
        Tried.laid(Tried.SQUARE).with("go", 1).with("tell", 4, 1).due(0, "crossings", 0).due(-1, "crossings", 1);
    }

    private static void total() {
        Sentences.sentence("Promise 36", "0 POSTS that are collected, 1 POSTS of THE GROUND, 2 its FENCES, 3 HEMS, 4 HELD, 5"
                + " BARRED ones, 6 what there is to go back to, 7 FINDINGS, 8 SHEETS that are not MISSING");
        totals(Tried.made(), 0, 0, 0, 0, 0, 0, 0, 0, 0);
        Tried x = Tried.laid(Tried.KITE).with("post", 40, 40);
        totals(x, 6, 5, 10, 4, 0, 0, 0, 0, 0);
        x.with("tell", 4, 1).with("tell", 0, 1).with("tell", 5, 1).with("tell", 1, 2).with("tell", 5, 0)
                .with("turn", 5);
        totals(x, 6, 5, 10, 4, 2, 1, 1, 0, 0);
        x.with("sheet", 2, 0, 4).with("sheet", 3, 0, 0).with("tear", 7).with("put", 0, 0, 0).with("weightAs", 0, 3);
        totals(x, 6, 5, 10, 4, 2, 1, 1, 3, 2);
        x.with("sheet", 0, 0, -1).with("at", 2, 1, 0).with("sheet", 0, 0, 20).with("sheet", 1, 0, 0).with("tear", 3);
        totals(x.with("clear"), 0, 5, 10, 4, 2, 1, 1, 5, 3);
        totals(x.with("lay"), 0, 5, 10, 4, 2, 1, 1, 5, 3);
        totals(x.posts(Tried.LINE).with("lay"), 3, 3, 2, 2, 0, 0, 0, 5, 3);
        totals(Tried.laid(Tried.MOST), 8, 8, 28, 3, 0, 0, 0, 0, 0);
        totals(Tried.laid(Tried.OCTAGON), 8, 8, 28, 8, 0, 0, 0, 0, 0);
        x = Tried.laid(Tried.TRIANGLE).with("tell", 0, 1).with("tell", 1, 1).with("tell", 2, 1);
        totals(x, 3, 3, 3, 3, 3, 0, 0, 0, 0);
        Sentences.sentence("Promise 36", "(1 to 6: 0 without a GROUND). BAD.");
        x = Tried.collected(Tried.MOST).row(0, 0, 1).row(3, 1, 2).with("tear", 4).with("turn", 0);
        totals(x.with("tell", 0, 1).with("go", 0), 8, 0, 0, 0, 0, 0, 0, 1, 2);
        for (int what : new int[] {-1, 9, 10, 64, MIN, MAX}) {
            x.due(-2, "total", what);
            Tried.laid(Tried.SQUARE).due(-2, "total", what).due(0, "total", 7);
        }
        x.due(1, "total", 7);
    }

    private static void totals(Tried x, int... totals) {
        for (int what = 0; what <= 8; what++) {
            x.due(totals[what], "total", what);
        }
        x.due(-2, "total", 9).due(-2, "total", -1);
    }

    public static void main(String[] args) {
        count();
        ranks();
        refusedRanks();
        sure();
        best();
        apart();
        way();
        far();
        crossings();
        total();
        Sentences.end();
    }
}
