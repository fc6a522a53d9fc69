/** The boundary cases that the document's sentences name: fences, kinds, what is held and barred. */
public final class FenceBoundaryTests {
    private static final int MIN = Tried.MIN;
    private static final int MAX = Tried.MAX;

    private static void fences(int[] places, int... ends) {
        Tried x = Tried.laid(places);
        int posts = places.length / 2;
        int next = 0;
        for (int a = 0; a < posts; a++) {
            for (int b = a + 1; b < posts; b++) {
                boolean isFence = 2 * next < ends.length && ends[2 * next] == a && ends[2 * next + 1] == b;
                x.due(isFence ? next : -9, "fence", a, b).due(isFence ? next : -9, "fence", b, a);
                if (isFence) {
                    x.due(a, "end", next, 0).due(b, "end", next, 1);
                    next++;
                }
            }
        }
        x.due(ends.length / 2, "total", 2).due(-1, "end", ends.length / 2, 0);
    }

    private static void whatIsAFence() {
        Sentences.sentence("Terms 1", "FENCES are pairs a, b of POSTS (a below b) without a POST between them on the"
                + " straight line, numbered 0, 1, .. by a, then by b.");
        fences(Tried.LINE, 0, 1, 1, 2);
        fences(Tried.ROW_AND_TOP, 0, 1, 0, 3, 1, 2, 1, 3, 2, 3);
        fences(new int[] {5, 0, 5, 9, 5, 60, 6, 7}, 0, 1, 0, 3, 1, 2, 1, 3, 2, 3);
        fences(new int[] {0, 0, 2, 1, 4, 2, 0, 9}, 0, 1, 0, 3, 1, 2, 1, 3, 2, 3);
        fences(new int[] {0, 60, 1, 59, 60, 0, 60, 60}, 0, 1, 0, 3, 1, 2, 1, 3, 2, 3);
        fences(new int[] {0, 0, 60, 60, 0, 60, 59, 59}, 0, 2, 0, 3, 1, 2, 1, 3, 2, 3);
        fences(new int[] {1, 1, 60, 60, 0, 60, 0, 0}, 0, 1, 0, 2, 0, 3, 1, 2, 2, 3);
        fences(new int[] {0, 0, 60, 0, 20, 0, 40, 0, 0, 9}, 0, 2, 0, 4, 1, 3, 1, 4, 2, 3, 2, 4, 3, 4);
        fences(new int[] {0, 0, 1, 1, 2, 2}, 0, 1, 1, 2);
        fences(new int[] {4, 4, 6, 6, 2, 2}, 0, 1, 0, 2);
        fences(Tried.HAIR, 0, 1, 0, 2, 0, 3, 1, 2, 1, 3, 2, 3);
        fences(Tried.HAIR_WITHIN, 0, 1, 0, 2, 0, 3, 1, 2, 1, 3, 2, 3);
        fences(new int[] {0, 0, 60, 1, 59, 1}, 0, 1, 0, 2, 1, 2);
        fences(new int[] {7, 3, 1, 3, 8, 3, 2, 3, 3, 3, 6, 3, 4, 3, 5, 3}, 0, 2, 0, 5, 1, 3, 3, 4, 4, 6, 5, 7, 6, 7);
        int[] all = new int[56];
        int next = 0;
        for (int a = 0; a < 8; a++) {
            for (int b = a + 1; b < 8; b++) {
                all[next++] = a;
                all[next++] = b;
            }
        }
        fences(Tried.OCTAGON, all);
        fences(Tried.MOST, all);
    }

    private static void fence() {
        Sentences.sentence("Promise 10", "The number of the FENCE between two POSTS; NONE: there is none.");
        Tried x = Tried.laid(Tried.OCTAGON).due(0, "fence", 0, 1).due(27, "fence", 6, 7).due(27, "fence", 7, 6);
        for (int p = 0; p < 8; p++) {
            x.due(-9, "fence", p, p);
        }
        Tried.laid(Tried.LINE).due(-9, "fence", 0, 2).due(-9, "fence", 2, 0).due(1, "fence", 2, 1);
        Sentences.sentence("Promise 10", "STATE; UNKNOWN.");
        Tried.made().due(-3, "fence", 0, 1).due(-3, "fence", -1, 9);
        Tried.collected(Tried.SQUARE).due(-3, "fence", 0, 1).due(-3, "fence", 4, 0);
        for (int many = 3; many <= 8; many++) {
            x = Tried.laid(java.util.Arrays.copyOf(Tried.OCTAGON, 2 * many)).due(0, "fence", 0, 1);
            for (long no : Tried.noneOf(many)) {
                x.due(-1, "fence", no, 0).due(-1, "fence", 0, no).due(-1, "fence", no, no);
                x.due(-1, "fence", many - 1, no);
            }
        }
        Sentences.sentence("Terms 3", "UNKNOWN -1 (there is no such POST, FENCE of THE GROUND, RANK)");
        int[][] grounds = {Tried.LINE, Tried.TRIANGLE, Tried.SQUARE, Tried.PENTAGON, Tried.HEXAGON, Tried.OCTAGON};
        int[] fences = {2, 3, 6, 10, 15, 28};
        for (int i = 0; i < grounds.length; i++) {
            x = Tried.laid(grounds[i]).due(fences[i], "total", 2);
            int last = fences[i] - 1;
            x.due(0, "crosses", 0, last).due(0, "crosses", last, 0).due(1, "has", last).due(2, "sure", last);
            for (long no : Tried.noneOf(fences[i])) {
                x.due(-1, "end", no, 0).due(-1, "end", no, 1).due(-1, "kind", no).due(-1, "weightAs", no, 0);
                x.due(-1, "weightAs", no, 1).due(-1, "crosses", no, 0).due(-1, "crosses", 0, no);
                x.due(-1, "crosses", last, no).due(-1, "crosses", no, no).due(-1, "tell", no, 0);
                x.due(-1, "tell", no, 1).due(-1, "tell", no, 2).due(-1, "weigh", no, 1).due(-1, "has", no);
                x.due(-1, "turns", no).due(-1, "turn", no).due(-1, "sure", no);
            }
            x.due(0, "total", 7).due(0, "total", 6).due(0, "rank");
        }
        Tried.laid(Tried.TRIANGLE).with("post", 60, 60).due(-1, "fence", 0, 3).due(-1, "degree", 3)
                .due(-1, "end", 3, 0).due(-1, "of", 1).due(6, "lay").due(2, "fence", 0, 3).due(59, "of", 1);
    }

    private static void end() {
        Sentences.sentence("Promise 11", "A POST of a FENCE: the lesser (what = 0), the other one (1).");
        Tried.laid(Tried.OCTAGON).due(0, "end", 0, 0).due(1, "end", 0, 1).due(6, "end", 27, 0).due(7, "end", 27, 1);
        Sentences.sentence("Promise 11", "BAD: what; STATE; UNKNOWN.");
        Tried x = Tried.laid(Tried.SQUARE);
        for (int what : new int[] {-1, 2, 3, MIN, MAX}) {
            x.due(-2, "end", 0, what).due(-2, "end", 6, what).due(-2, "end", -1, what);
            Tried.made().due(-2, "end", 0, what).due(-2, "end", -1, what);
        }
        Tried.made().due(-3, "end", 0, 0).due(-3, "end", 6, 1).due(-3, "end", -1, 0);
        for (long no : Tried.noneOf(6)) {
            x.due(-1, "end", no, 0).due(-1, "end", no, 1);
        }
        x.due(2, "end", 5, 0).due(3, "end", 5, 1).due(0, "total", 7);
    }

    private static void hems() {
        Sentences.sentence("Terms 1", "a HEM: with no POSTS on both sides of its line");
        Tried.laid(Tried.LINE).due(1, "kind", 0).due(1, "kind", 1).due(2, "total", 3);
        Tried.laid(0, 0, 1, 1, 2, 2, 3, 3, 4, 4, 5, 5, 6, 6, 60, 60).due(7, "total", 3).due(1, "kind", 6);
        Tried.laid(Tried.ROW_AND_TOP).due(4, "total", 3).due(0, "kind", 3);
        Tried.laid(Tried.TRIANGLE).due(3, "total", 3);
        Tried.laid(Tried.SQUARE).due(4, "total", 3).due(0, "kind", 1).due(0, "kind", 4);
        Tried.laid(Tried.HAIR).due(4, "total", 3).due(0, "kind", 0).due(0, "kind", 5);
        Tried.laid(Tried.HAIR_WITHIN).due(3, "total", 3).due(1, "kind", 0).due(0, "kind", 2).due(0, "kind", 4);
        Tried.laid(0, 0, 60, 59, 0, 60, 59, 58).due(4, "total", 3).due(0, "kind", 0);
        Tried.laid(Tried.OCTAGON).due(8, "total", 3);
        Tried.laid(Tried.MOST).due(3, "total", 3);
        Sentences.sentence("Terms 1", "2 BARE: a HEM that is in it, whose THIRD has two HEMS or more; 1 other HEMS;"
                + " 0 all others.");
        kinds(Tried.laid(Tried.TRIANGLE), 2, 2, 2);
        kinds(Tried.laid(Tried.LINE), 1, 1);
        kinds(Tried.laid(Tried.SQUARE), 2, 0, 2, 2, 0, 2);
        kinds(Tried.laid(Tried.ROW_AND_TOP), 2, 2, 2, 0, 2);
        kinds(Tried.laid(Tried.HAIR_WITHIN), 1, 1, 0, 1, 0, 0);
        kinds(Tried.laid(30, 0, 0, 60, 60, 60, 30, 20), 1, 1, 0, 1, 0, 0);
        kinds(Tried.laid(30, 0, 0, 60, 60, 60, 30, 60), 2, 2, 0, 2, 2);
        Sentences.sentence("Terms 1", "By THE CUTTING at hand");
        kindsOfTheGreatest();
        Tried x = Tried.laid(Tried.PENTAGON);
        kinds(x, 2, 0, 0, 2, 2, 0, 0, 1, 0, 2);
        kinds(x.with("turn", 1), 1, 0, 0, 2, 2, 0, 0, 2, 0, 2);
        kinds(x.with("turn", 2), 2, 0, 0, 2, 2, 0, 0, 2, 0, 1);
        kinds(x.with("go", 4), 2, 0, 0, 2, 1, 0, 0, 2, 0, 2);
        kinds(x.with("go", 3), 2, 0, 0, 1, 2, 0, 0, 2, 0, 2);
        kinds(x.with("back").with("back"), 2, 0, 0, 2, 2, 0, 0, 2, 0, 1);
        x = Tried.laid(Tried.KITE);
        kinds(x, 1, 0, 1, 0, 2, 0, 0, 2, 0, 0);
        kinds(x.with("turn", 5), 1, 0, 1, 0, 1, 0, 0, 1, 0, 0);
        kinds(x.with("turn", 6), 2, 0, 1, 0, 2, 0, 0, 1, 0, 0);
    }

    /** The kinds of OCTAGON, whose hems are 01, 12, .. 67, 07, as its thirds make them. */
    private static void kindsOfTheGreatest() {
        for (int r = 0; r < 132; r += 7) {
            Tried x = Tried.laid(Tried.OCTAGON).with("go", r);
            int[] kinds = new int[28];
            for (int i = 0; i < 6; i++) {
                long[] corners = {x.ask("third", i, 0), x.ask("third", i, 1), x.ask("third", i, 2)};
                long[] sides = {x.ask("fence", corners[0], corners[1]), x.ask("fence", corners[1], corners[2]),
                    x.ask("fence", corners[0], corners[2])};
                boolean[] isHem = {corners[1] - corners[0] == 1, corners[2] - corners[1] == 1,
                    corners[2] - corners[0] == 7};
                int hems = (isHem[0] ? 1 : 0) + (isHem[1] ? 1 : 0) + (isHem[2] ? 1 : 0);
                for (int s = 0; s < 3; s++) {
                    if (isHem[s]) {
                        kinds[(int) sides[s]] = hems >= 2 ? 2 : 1;
                    }
                }
            }
            kinds(x, kinds);
        }
    }

    private static void kinds(Tried x, int... kinds) {
        for (int f = 0; f < kinds.length; f++) {
            x.due(kinds[f], "kind", f);
        }
        x.due(-1, "kind", kinds.length).due(-1, "kind", -1);
    }

    private static void kind() {
        Sentences.sentence("Terms 1", "Told is the first that fits in the order HELD, BARRED, BARE, HEM.");
        Tried x = Tried.laid(Tried.PENTAGON).with("tell", 0, 1).with("tell", 7, 1).with("tell", 2, 1)
                .with("tell", 6, 2);
        kinds(x, 4, 0, 4, 2, 2, 0, 3, 4, 0, 2);
        x.with("turn", 1).due(3, "kind", 6).due(0, "kind", 1).with("tell", 5, 1).with("tell", 1, 2);
        kinds(x, 4, 3, 4, 2, 2, 4, 3, 4, 0, 2);
        x.with("tell", 0, 0).with("tell", 7, 0).with("tell", 6, 0).with("tell", 5, 0);
        kinds(x, 1, 3, 4, 2, 2, 0, 0, 2, 0, 2);
        x.with("lay");
        kinds(x, 2, 0, 0, 2, 2, 0, 0, 1, 0, 2);
        Sentences.sentence("Terms 1", "KINDS of FENCES: 4 HELD, 3 BARRED, as told");
        Tried.laid(Tried.SQUARE).with("tell", 1, 1).due(4, "kind", 1).with("tell", 4, 2).due(3, "kind", 4)
                .with("tell", 1, 0).due(0, "kind", 1).with("tell", 4, 0).due(0, "kind", 4);
        Sentences.sentence("Promise 12", "The KIND of a FENCE. STATE; UNKNOWN.");
        Tried.made().due(-3, "kind", 0).due(-3, "kind", -1).due(-3, "kind", 99);
        x = Tried.laid(Tried.OCTAGON).due(2, "kind", 0).due(0, "kind", 26).due(2, "kind", 27);
        for (long no : Tried.noneOf(28)) {
            x.due(-1, "kind", no);
        }
    }

    private static void weightAs() {
        Sentences.sentence("Promise 13", "A FENCE taken as one of a KIND (0: any; 1: HEM, BARE; 2, 3, 4: just these): its"
                + " weight.");
        Tried x = Tried.laid(Tried.PENTAGON);
        for (int f = 0; f < 10; f++) {
            x.with("weigh", f, 100 + f);
        }
        x.with("tell", 2, 1).with("tell", 0, 1).with("tell", 6, 2);
        kinds(x, 4, 0, 4, 2, 2, 0, 3, 1, 0, 2);
        int[] kinds = {4, 0, 4, 2, 2, 0, 3, 1, 0, 2};
        int casts = 0;
        for (int f = 0; f < 10; f++) {
            for (int k = 0; k <= 4; k++) {
                boolean isOne = k == 0 || k == kinds[f] || k == 1 && kinds[f] == 2;
                x.due(isOne ? 100 + f : -13, "weightAs", f, k);
                casts += isOne ? 0 : 1;
                x.due(casts, "total", 7);
            }
        }
        Sentences.sentence("Promise 13", "BAD: kind; STATE; UNKNOWN; CAST.");
        for (int kind : new int[] {-1, 5, 6, MIN, MAX}) {
            x.due(-2, "weightAs", 0, kind).due(-2, "weightAs", 10, kind).due(-2, "weightAs", -1, kind);
            Tried.made().due(-2, "weightAs", 0, kind).due(-2, "weightAs", -1, kind);
        }
        for (int kind = 0; kind <= 4; kind++) {
            Tried.made().due(-3, "weightAs", 0, kind).due(-3, "weightAs", 99, kind).due(0, "total", 7);
            for (long no : Tried.noneOf(10)) {
                x.due(-1, "weightAs", no, kind);
            }
        }
        x.due(casts, "total", 7).due(-13, "weightAs", 9, 4).due(casts + 1, "total", 7);
        Sentences.sentence("Terms 3", "CAST -13 (a FENCE of another KIND");
        Tried.laid(Tried.LINE).due(0, "weightAs", 0, 1).due(-13, "weightAs", 0, 2).due(-13, "weightAs", 0, 3)
                .due(-13, "weightAs", 1, 4).due(0, "weightAs", 1, 0).due(3, "total", 7);
    }

    private static void crosses() {
        Sentences.sentence("Terms 1", "Two CROSS, if they have a point in common that is no POST of theirs.");
        Tried x = Tried.laid(0, 10, 20, 10, 10, 11, 10, 40, 30, 0, 30, 30, 22, 10, 29, 10);
        crosses(x, 0, 1, 2, 3, 0);
        crosses(x, 0, 1, 2, 4, 1);
        crosses(x, 0, 1, 3, 4, 0);
        crosses(x, 0, 1, 4, 5, 0);
        crosses(x, 0, 1, 6, 7, 0);
        crosses(x, 0, 1, 1, 6, 0);
        crosses(x, 0, 1, 1, 3, 0);
        crosses(x, 6, 7, 4, 5, 0);
        crosses(x, 6, 7, 2, 4, 0);
        crosses(x, 6, 7, 3, 4, 1);
        crosses(x, 6, 7, 2, 5, 0);
        x = Tried.laid(Tried.HAIR);
        crosses(x, 0, 1, 2, 3, 1);
        crosses(x, 0, 2, 1, 3, 0);
        crosses(x, 0, 3, 1, 2, 0);
        x = Tried.laid(Tried.HAIR_WITHIN);
        crosses(x, 0, 1, 2, 3, 0);
        crosses(x, 0, 3, 1, 2, 0);
        x = Tried.laid(0, 0, 60, 60, 60, 0, 0, 60);
        crosses(x, 0, 1, 2, 3, 1);
        crosses(x, 0, 2, 1, 3, 0);
        crosses(x, 0, 3, 1, 2, 0);
        Sentences.sentence("Promise 14", "Whether two FENCES CROSS: 1, 0. STATE; UNKNOWN.");
        Tried.made().due(-3, "crosses", 0, 0).due(-3, "crosses", -1, 99);
        x = Tried.laid(Tried.OCTAGON);
        crosses(x, 0, 2, 1, 7, 1);
        crosses(x, 0, 6, 5, 7, 1);
        crosses(x, 0, 1, 6, 7, 0);
        for (int f = 0; f < 28; f++) {
            // of two fences the document speaks: one and the same is not told to cross itself
            x.due(0, "crosses", f, f);
        }
        for (long no : Tried.noneOf(28)) {
            x.due(-1, "crosses", no, 0).due(-1, "crosses", 27, no).due(-1, "crosses", no, no);
        }
    }

    private static void crosses(Tried x, int a, int b, int c, int d, int due) {
        long f = x.ask("fence", a, b);
        long g = x.ask("fence", c, d);
        x.due(due, "crosses", f, g).due(due, "crosses", g, f);
    }

    private static void tell() {
        Sentences.sentence("Promise 15", "A FENCE is HELD (how = 1), BARRED (2), neither (0): how many CUTTINGS are ASKED.");
        Tried x = Tried.laid(Tried.PENTAGON).due(5, "tell", 0, 0).due(5, "tell", 0, 1).due(5, "tell", 0, 1);
        x.due(1, "total", 4).due(2, "tell", 1, 1).due(1, "tell", 2, 1).due(3, "total", 4).due(2, "tell", 1, 0);
        x.due(1, "tell", 5, 2).due(1, "tell", 5, 2).due(1, "total", 5).due(1, "tell", 6, 2).due(1, "tell", 8, 2);
        x.due(3, "total", 5).due(2, "total", 4).due(1, "count").due(1, "tell", 2, 0).due(1, "tell", 6, 0);
        x.due(3, "tell", 8, 0).due(923, "of", 1).due(5, "tell", 5, 0).due(1, "total", 4).due(0, "total", 5);
        x = Tried.laid(Tried.MOST).due(150, "tell", 27, 0).due(-1, "tell", 28, 0);
        for (int f = 0; f < 28; f++) {
            x.with("tell", f, x.ask("has", f) == 1 ? 1 : 2);
        }
        x.due(1, "count").due(18, "total", 4).due(10, "total", 5).due(0, "rank").due(0, "far");
        for (int f = 0; f < 28; f++) {
            x.with("tell", f, 0);
        }
        x.due(150, "count").due(0, "total", 4).due(0, "total", 5);
        Sentences.sentence("Promise 15", "BAD; STATE: also, if how is 1 and THE CUTTING has it not, 2 and it has; UNKNOWN"
                + " ahead of that.");
        x = Tried.laid(Tried.PENTAGON).with("tell", 8, 2).with("tell", 1, 1).with("turn", 2);
        x.with("tell", 8, 0).with("turn", 2);
        for (int how : new int[] {-1, 3, 4, MIN, MAX}) {
            x.due(-2, "tell", 1, how).due(-2, "tell", 5, how).due(-2, "tell", 10, how).due(-2, "tell", -1, how);
            Tried.made().due(-2, "tell", 0, how).due(-2, "tell", -1, how);
        }
        for (int how = 0; how <= 2; how++) {
            Tried.made().due(-3, "tell", 0, how).due(-3, "tell", -1, how).due(-3, "tell", 99, how);
            for (long no : Tried.noneOf(10)) {
                x.due(-1, "tell", no, how);
            }
        }
        x.due(923, "cutting").due(-3, "tell", 2, 1).due(-3, "tell", 5, 1).due(-3, "tell", 6, 1);
        x.due(-3, "tell", 1, 2).due(-3, "tell", 8, 2).due(-3, "tell", 0, 2).due(-3, "tell", 9, 2);
        x.due(1, "total", 4).due(0, "total", 5).due(1, "total", 6).due(2, "count").due(4, "kind", 1);
        x.due(1, "tell", 2, 2).due(-3, "tell", 2, 1).due(1, "tell", 8, 0).due(1, "tell", 8, 1).due(-3, "tell", 8, 2);
        x.due(0, "total", 7);
        Sentences.sentence("Promise 15", "(What there was to go back to is gone.)");
        for (int how = 0; how <= 2; how++) {
            int fence = how == 2 ? 5 : 1;
            x = Tried.laid(Tried.PENTAGON).with("go", 1).with("go", 0).due(2, "total", 6).with("tell", fence, how);
            x.due(0, "total", 6).due(-3, "back").due(671, "cutting").with("go", 0).due(0, "back").due(-3, "back");
        }
        x = Tried.laid(Tried.PENTAGON).with("tell", 1, 1).with("go", 1).due(2, "tell", 1, 1).due(-3, "back");
    }

    private static void asked() {
        Sentences.sentence("Terms 1", "ASKED are CUTTINGS that have all HELD FENCES and no BARRED ones.");
        Tried x = Tried.laid(Tried.PENTAGON).due(5, "count").with("tell", 8, 2).due(3, "count");
        x.due(671, "of", 0).due(701, "of", 1).due(761, "of", 2).due(-1, "of", 3).with("tell", 6, 2).due(2, "count");
        x.due(671, "of", 0).due(701, "of", 1).due(-1, "of", 2).with("tell", 2, 1).due(2, "count");
        x.with("tell", 1, 1).due(1, "count").due(671, "of", 0).due(-1, "of", 1);
        Sentences.sentence("Terms 1", "Their ORDER is by their numbers, their RANK 0, 1, ..");
        for (int[] places : new int[][] {Tried.MOST, Tried.OCTAGON, Tried.HEXAGON}) {
            x = Tried.laid(places);
            long many = x.ask("count");
            for (int r = 1; r < many; r++) {
                boolean isAbove = x.ask("of", r) > x.ask("of", r - 1);
                Sentences.due("of(" + r + ") is above of(" + (r - 1) + ")", isAbove ? 1 : 0, 1);
            }
        }
    }

    private static void cuttings() {
        Sentences.sentence("Terms 1", "A CUTTING is a set of FENCES, no two of which CROSS, to which none can be added");
        int[][] grounds = {Tried.TRIANGLE, Tried.LINE, Tried.SQUARE, Tried.KITE, Tried.PENTAGON, Tried.HEXAGON,
            Tried.ROW_AND_TOP, Tried.HAIR, Tried.HAIR_WITHIN};
        int[] counts = {1, 1, 2, 3, 5, 14, 1, 2, 1};
        for (int i = 0; i < grounds.length; i++) {
            Tried x = Tried.laid(grounds[i]).due(counts[i], "count");
            int fences = (int) x.ask("total", 2);
            long[] crossed = new long[fences];
            for (int f = 0; f < fences; f++) {
                for (int g = 0; g < fences; g++) {
                    crossed[f] |= x.ask("crosses", f, g) << g;
                }
            }
            for (int r = 0; r < counts[i]; r++) {
                long cutting = x.ask("of", r);
                for (int f = 0; f < fences; f++) {
                    boolean isIn = (cutting >> f & 1) != 0;
                    boolean isCrossed = (crossed[f] & cutting) != 0;
                    Sentences.due("of(" + r + ") has " + f + ", or one that crosses it", isIn != isCrossed ? 1 : 0, 1);
                }
                Sentences.due("of(" + r + ") has no other bits", cutting >> fences, 0);
            }
        }
        Sentences.sentence("Terms 1", "(Of POSTS in one line there is one.)");
        int[] line = {7, 3, 1, 3, 8, 3, 2, 3, 3, 3, 6, 3, 4, 3, 5, 3};
        for (int posts = 3; posts <= 8; posts++) {
            Tried.laid(java.util.Arrays.copyOf(line, 2 * posts)).due(1, "count").due((1 << posts - 1) - 1, "cutting")
                    .due(0, "thirds").due(0, "far").due(2, "sure", 0).due(posts - 1, "total", 3).due(-1, "of", 1);
        }
        Tried.laid(0, 60, 20, 40, 60, 0).due(1, "count").due(3, "cutting");
        Tried.laid(9, 0, 9, 60, 9, 59).due(1, "count").due(3, "cutting").due(1, "has", 1);
        Sentences.sentence("Terms 1", "it is told as a number, bit f for FENCE f");
        Tried x = Tried.laid(Tried.MOST).with("go", 149);
        long cutting = x.ask("cutting");
        for (int f = 0; f < 28; f++) {
            x.due(cutting >> f & 1, "has", f);
        }
        x.due(cutting, "of", 149).due(1, "has", 27).due(0, "has", 1).due(149, "rank");
    }

    private static void weigh() {
        Sentences.sentence("Promise 16", "A FENCE gets a weight (-1000 .. 1000): what it had.");
        Tried x = Tried.laid(Tried.OCTAGON).due(0, "weigh", 27, 1000).due(1000, "weigh", 27, -1000);
        x.due(-1000, "weigh", 27, 999).due(999, "weigh", 27, -999).due(-999, "weightAs", 27, 0).due(0, "weigh", 0, 1);
        x.due(1, "weightAs", 0, 0).due(0, "weightAs", 1, 0).due(-999, "weigh", 27, 0).due(0, "weigh", 27, 0);
        x.due(0, "weigh", 1, 5).due(-1, "weightAs", 28, 0).with("turn", 1).with("tell", 5, 1).with("go", 2)
                .with("back");
        x.due(5, "weightAs", 1, 0);
        Sentences.sentence("Promise 16", "BAD; STATE; UNKNOWN.");
        x = Tried.laid(Tried.SQUARE).with("weigh", 5, 7);
        for (int weight : new int[] {-1001, 1001, MIN, MAX, 65536}) {
            x.due(-2, "weigh", 5, weight).due(-2, "weigh", 6, weight).due(-2, "weigh", -1, weight);
            Tried.made().due(-2, "weigh", 0, weight).due(-2, "weigh", -1, weight);
        }
        for (int weight : new int[] {-1000, 0, 1000}) {
            Tried.made().due(-3, "weigh", 0, weight).due(-3, "weigh", 99, weight);
            for (long no : Tried.noneOf(6)) {
                x.due(-1, "weigh", no, weight);
            }
        }
        x.due(7, "weigh", 5, 0).due(0, "total", 7);
    }

    public static void main(String[] args) {
        whatIsAFence();
        fence();
        end();
        hems();
        kind();
        weightAs();
        crosses();
        tell();
        asked();
        cuttings();
        weigh();
        Sentences.end();
    }
}
