/**
 * Each promise by hand-worked answers: ordinary inputs, the edges that the document names, wrong
 * inputs, and what is told first of several refusals.
 *
 * <p>The grounds used:
 * <ul>
 * <li>SQUARE: fences 0:01 1:02 2:03 3:12 4:13 5:23; cuttings 47 (with 02), 61 (with 13).
 * <li>PENTAGON (convex): fences 0:01 1:02 2:03 3:04 4:12 5:13 6:14 7:23 8:24 9:34; cuttings by rank
 *     671 {02,03}, 701 {03,13}, 761 {13,14}, 923 {02,24}, 985 {14,24}, besides the hems 665; turns
 *     lead round by the ranks 0 1 2 4 3 0.
 * <li>KITE, a square with post 4 within, between the triangles 0 2 3 and 0 1 3: the fences are
 *     numbered as in PENTAGON; cuttings by rank 765 {13,14}, 927 {02,24}, 989 {14,24}, besides 669.
 * <li>HEXAGON (convex): fences 0:01 1:02 2:03 3:04 4:05 5:12 6:13 7:14 8:15 9:23 10:24 11:25 12:34
 *     13:35 14:45; 14 cuttings.
 * </ul>
 */
public final class PromiseTests {
    private static final int MIN = Integer.MIN_VALUE;
    private static final int MAX = Integer.MAX_VALUE;
    private static final int[] SQUARE = {0, 0, 4, 0, 4, 4, 0, 4};
    private static final int[] PENTAGON = {2, 0, 6, 0, 8, 4, 4, 8, 0, 4};
    private static final int[] KITE = {0, 0, 8, 0, 8, 8, 0, 8, 3, 4};
    private static final int[] HEXAGON = {0, 3, 2, 0, 5, 0, 7, 3, 5, 6, 2, 6};
    private static final int[] LINE = {0, 0, 30, 0, 60, 0};
    private static final int[] OCTAGON = {1, 0, 2, 0, 3, 1, 3, 2, 2, 3, 1, 3, 0, 2, 0, 1};

    private static int promise;
    private static int wrong;

    private static void due(String call, long got, long want) {
        if (got != want) {
            wrong++;
            System.out.println("promise " + promise + ": " + call + " answered " + got + ", due is " + want);
        }
    }

    private static FenceTurns collected(int... places) {
        FenceTurns x = new FenceTurns();
        for (int i = 0; i + 1 < places.length; i += 2) {
            x.post(places[i], places[i + 1]);
        }
        return x;
    }

    private static FenceTurns laid(int... places) {
        FenceTurns x = collected(places);
        x.lay();
        return x;
    }

    private static void goTo(FenceTurns x, long cutting) {
        for (int r = 0; r < x.count(); r++) {
            if (x.of(r) == cutting) {
                x.go(r);
                return;
            }
        }
        due("of(some rank)", -1, cutting);
    }

    private static void aNewObject() {
        promise = 1;
        FenceTurns x = new FenceTurns();
        for (int what = 0; what <= 8; what++) {
            due("total(" + what + ")", x.total(what), 0);
        }
        due("count()", x.count(), -3);
        due("cutting()", x.cutting(), -3);
        due("lay()", x.lay(), -3);
        for (int s = 0; s < 4; s++) {
            due("tear(" + s + ")", x.tear(s), 1);
        }
        FenceTurns other = laid(SQUARE);
        due("another object's total(0)", x.total(0), 0);
        due("this object's total(0)", other.total(0), 4);
    }

    private static void sheet() {
        promise = 2;
        FenceTurns x = new FenceTurns();
        due("sheet(0, 0, 20)", x.sheet(0, 0, 20), 20);
        due("sheet(3, 3, 0)", x.sheet(3, 3, 0), 0);
        due("total(8)", x.total(8), 2);
        due("sheet(0, 0, 21)", x.sheet(0, 0, 21), -2);
        due("sheet(0, -1, 1)", x.sheet(0, -1, 1), -2);
        due("sheet(0, 4, 1)", x.sheet(0, 4, 1), -2);
        due("sheet(0, 0, MAX)", x.sheet(0, 0, MAX), -2);
        due("total(7)", x.total(7), 0);
        due("sheet(-1, 9, 99)", x.sheet(-1, 9, 99), -12);
        due("sheet(4, 9, -1)", x.sheet(4, 9, -1), -12);
        due("sheet(0, 9, -1)", x.sheet(0, 9, -1), -2);
        due("sheet(0, 0, -1)", x.sheet(0, 0, -1), -14);
        due("sheet(0, 0, MIN)", x.sheet(0, 0, MIN), -14);
        due("total(7)", x.total(7), 4);
        x.put(0, 19, 7);
        due("sheet(0, 3, -1)", x.sheet(0, 3, -1), -14);
        due("what was refused changes nothing: at(0, 0, 19)", x.at(0, 0, 19), 7);
        due("sheet(0, 1, 20)", x.sheet(0, 1, 20), 20);
        due("a new row is 0: at(0, 1, 19)", x.at(0, 1, 19), 0);
        due("sheet(0, 1, 3)", x.sheet(0, 1, 3), 3);
        due("at(0, 1, 3)", x.at(0, 1, 3), -12);
        due("total(8)", x.total(8), 2);
    }

    private static void tear() {
        promise = 3;
        FenceTurns x = new FenceTurns();
        due("tear(2)", x.tear(2), 1);
        x.sheet(2, 0, 0);
        due("tear(2)", x.tear(2), 0);
        due("tear(2)", x.tear(2), 1);
        due("put(2, 0, 0)", x.put(2, 0, 0), -11);
        due("tear(-1)", x.tear(-1), -12);
        due("tear(4)", x.tear(4), -12);
        due("tear(MAX)", x.tear(MAX), -12);
        due("total(7)", x.total(7), 4);
        x.sheet(2, 0, 1);
        x.put(2, 0, 5);
        x.tear(2);
        x.sheet(2, 0, 1);
        due("at(2, 0, 0)", x.at(2, 0, 0), 0);
    }

    private static void put() {
        promise = 4;
        FenceTurns x = new FenceTurns();
        x.sheet(0, 0, 2);
        x.sheet(1, 1, 2);
        x.sheet(2, 2, 2);
        x.sheet(3, 3, 2);
        for (int s = 0; s < 4; s++) {
            due("put(" + s + ", 1, v)", x.put(s, 1, 0x123456789ABCDEF0L), 1);
        }
        due("at(0, 0, 1)", x.at(0, 0, 1), -0x10);
        due("at(1, 1, 1)", x.at(1, 1, 1), -0x2110);
        due("at(2, 2, 1)", x.at(2, 2, 1), (int) 0x9ABCDEF0L);
        due("at(3, 3, 1)", x.at(3, 3, 1), 0x123456789ABCDEF0L);
        due("at(3, 3, 0)", x.at(3, 3, 0), 0);
        due("put(0, 0, 200)", x.put(0, 0, 200), 1);
        due("at(0, 0, 0)", x.at(0, 0, 0), -56);
        due("put(0, 2, 0)", x.put(0, 2, 0), -12);
        due("put(0, -1, 0)", x.put(0, -1, 0), -12);
        due("put(0, MIN, 0)", x.put(0, MIN, 0), -12);
        due("put(4, 0, 0)", x.put(4, 0, 0), -12);
        due("put(-1, 0, 0)", x.put(-1, 0, 0), -12);
        x.tear(1);
        due("put(1, 9, 0)", x.put(1, 9, 0), -11);
        due("total(7)", x.total(7), 6);
    }

    private static void at() {
        promise = 5;
        FenceTurns x = new FenceTurns();
        x.sheet(1, 2, 3);
        x.put(1, 2, -12);
        due("at(1, 2, 2)", x.at(1, 2, 2), -12);
        due("a number is no finding: total(7)", x.total(7), 0);
        due("at(1, 2, 3)", x.at(1, 2, 3), -12);
        due("at(1, 2, -1)", x.at(1, 2, -1), -12);
        due("at(1, 3, 9)", x.at(1, 3, 9), -13);
        due("at(1, 1, 0)", x.at(1, 1, 0), -13);
        due("at(0, 2, 9)", x.at(0, 2, 9), -11);
        due("total(7)", x.total(7), 5);
        due("at(0, 4, 0)", x.at(0, 4, 0), -2);
        due("at(1, -1, 9)", x.at(1, -1, 9), -2);
        due("total(7)", x.total(7), 5);
        due("at(4, 4, 0)", x.at(4, 4, 0), -12);
        due("at(-1, -1, 0)", x.at(-1, -1, 0), -12);
        due("total(7)", x.total(7), 7);
    }

    private static void post() {
        promise = 6;
        FenceTurns x = new FenceTurns();
        due("post(0, 60)", x.post(0, 60), 1);
        due("post(60, 0)", x.post(60, 0), 2);
        due("post(0, 60)", x.post(0, 60), -3);
        due("post(-1, 0)", x.post(-1, 0), -2);
        due("post(61, 0)", x.post(61, 0), -2);
        due("post(0, -1)", x.post(0, -1), -2);
        due("post(0, 61)", x.post(0, 61), -2);
        due("post(MIN, MAX)", x.post(MIN, MAX), -2);
        for (int p = 3; p <= 8; p++) {
            due("post(" + p + ", 1)", x.post(p, 1), p);
        }
        due("post(9, 1)", x.post(9, 1), -4);
        due("post(3, 1)", x.post(3, 1), -3);
        due("post(61, 1)", x.post(61, 1), -2);
        due("total(0)", x.total(0), 8);
        due("total(7)", x.total(7), 0);
    }

    private static void take() {
        promise = 7;
        FenceTurns x = new FenceTurns();
        due("take(4, 0)", x.take(4, 0), -12);
        due("take(-1, 0)", x.take(-1, 0), -12);
        due("take(0, 99)", x.take(0, 99), -11);
        x.sheet(0, 3, 7);
        for (int i = 0; i < 7; i++) {
            x.put(0, i, i);
        }
        due("take(0, 8)", x.take(0, 8), -12);
        due("take(0, -1)", x.take(0, -1), -12);
        due("total(7)", x.total(7), 5);
        due("take(0, 7)", x.take(0, 7), 0);
        due("take(0, 6)", x.take(0, 6), 0);
        due("take(0, 3)", x.take(0, 3), 2);
        due("take(0, 0)", x.take(0, 0), 3);
        due("take(0, 0)", x.take(0, 0), 0);
        due("total(0)", x.total(0), 5);
        x.put(0, 0, 50);
        x.put(0, 2, 1L << 32);
        due("a number beyond an int is no place: take(0, 0)", x.take(0, 0), 1);
        x.put(0, 0, 51);
        x.put(0, 2, 2);
        due("one at 2, 3 is there: take(0, 0)", x.take(0, 0), 1);
        x.clear();
        x.sheet(1, 0, 20);
        for (int i = 0; i < 20; i++) {
            x.put(1, i, i);
        }
        due("posts are full: take(1, 0)", x.take(1, 0), 8);
        due("total(0)", x.total(0), 8);
        due("x comes first: lay()", x.lay(), 7);
        due("total(7)", x.total(7), 5);
    }

    private static void clear() {
        promise = 8;
        FenceTurns x = new FenceTurns();
        due("clear()", x.clear(), 0);
        x.post(1, 1);
        x.post(2, 2);
        due("clear()", x.clear(), 2);
        due("clear()", x.clear(), 0);
        due("post(1, 1)", x.post(1, 1), 1);
        x = laid(SQUARE);
        due("clear()", x.clear(), 4);
        due("the ground stays: count()", x.count(), 2);
        due("total(1)", x.total(1), 4);
        x.post(9, 9);
        due("end(5, 1)", x.end(5, 1), 3);
        due("turn(1)", x.turn(1), 4);
    }

    private static void lay() {
        promise = 9;
        FenceTurns x = collected(0, 0, 9, 0);
        due("lay()", x.lay(), -3);
        x.post(4, 5);
        due("lay()", x.lay(), 3);
        due("total(0)", x.total(0), 3);
        due("cutting()", x.cutting(), 7);
        x = laid(PENTAGON);
        due("cutting()", x.cutting(), 671);
        x.weigh(9, 5);
        x.turn(1);
        x.tell(1, 2);
        x.tell(2, 1);
        x.go(1);
        due("lay()", x.lay(), 10);
        due("cutting()", x.cutting(), 671);
        due("total(4)", x.total(4), 0);
        due("total(5)", x.total(5), 0);
        due("total(6)", x.total(6), 0);
        due("weigh(9, 0)", x.weigh(9, 0), 0);
        due("count()", x.count(), 5);
        x.turn(1);
        x.clear();
        due("lay()", x.lay(), -3);
        due("what is refused changes nothing: cutting()", x.cutting(), 701);
        due("total(6)", x.total(6), 1);
        x = laid(OCTAGON);
        due("total(2)", x.total(2), 28);
        due("count()", x.count(), 132);
        x.clear();
        for (int i = 0; i + 1 < SQUARE.length; i += 2) {
            x.post(SQUARE[i], SQUARE[i + 1]);
        }
        due("a lesser ground after a greater one: lay()", x.lay(), 6);
        due("far()", x.far(), 1);
        due("apart(1)", x.apart(1), 1);
    }

    private static void fence() {
        promise = 10;
        due("fence(9, 9)", new FenceTurns().fence(9, 9), -3);
        FenceTurns x = laid(PENTAGON);
        int f = 0;
        for (int a = 0; a < 5; a++) {
            for (int b = a + 1; b < 5; b++) {
                due("fence(" + a + ", " + b + ")", x.fence(a, b), f);
                due("fence(" + b + ", " + a + ")", x.fence(b, a), f);
                f++;
            }
        }
        due("fence(2, 2)", x.fence(2, 2), -9);
        due("fence(5, 0)", x.fence(5, 0), -1);
        due("fence(0, 5)", x.fence(0, 5), -1);
        due("fence(-1, 0)", x.fence(-1, 0), -1);
        due("fence(0, MIN)", x.fence(0, MIN), -1);
        x.post(20, 20);
        due("a post that was not laid: fence(0, 5)", x.fence(0, 5), -1);
        x = laid(0, 0, 6, 4, 3, 2, 9, 6);
        due("fence(0, 1)", x.fence(0, 1), -9);
        due("fence(0, 2)", x.fence(0, 2), 0);
        due("fence(0, 3)", x.fence(0, 3), -9);
        due("fence(1, 2)", x.fence(1, 2), 1);
        due("fence(1, 3)", x.fence(1, 3), 2);
        due("total(2)", x.total(2), 3);
    }

    private static void end() {
        promise = 11;
        FenceTurns x = new FenceTurns();
        due("end(0, 2)", x.end(0, 2), -2);
        due("end(99, 1)", x.end(99, 1), -3);
        x = laid(PENTAGON);
        due("end(6, 0)", x.end(6, 0), 1);
        due("end(6, 1)", x.end(6, 1), 4);
        due("end(9, 0)", x.end(9, 0), 3);
        due("end(10, 0)", x.end(10, 0), -1);
        due("end(-1, 1)", x.end(-1, 1), -1);
        due("end(10, -1)", x.end(10, -1), -2);
        due("end(0, 2)", x.end(0, 2), -2);
    }

    private static void kind() {
        promise = 12;
        due("kind(9)", new FenceTurns().kind(9), -3);
        FenceTurns x = laid(KITE);
        due("kind(10)", x.kind(10), -1);
        due("kind(-1)", x.kind(-1), -1);
        due("cutting()", x.cutting(), 765);
        due("01 by third 0 1 4: kind(0)", x.kind(0), 1);
        due("03 by third 0 3 4: kind(2)", x.kind(2), 1);
        due("12 by third 1 2 3: kind(4)", x.kind(4), 2);
        due("23 by third 1 2 3: kind(7)", x.kind(7), 2);
        due("13: kind(5)", x.kind(5), 0);
        due("24, not in the cutting: kind(8)", x.kind(8), 0);
        x.turn(5);
        due("no hems in one third: kind(4)", x.kind(4), 1);
        x.back();
        due("kind(4)", x.kind(4), 2);
        x.tell(4, 1);
        due("held ahead of bare: kind(4)", x.kind(4), 4);
        due("the third has two hems yet: kind(7)", x.kind(7), 2);
        x.tell(8, 2);
        due("kind(8)", x.kind(8), 3);
        x.tell(8, 0);
        due("kind(8)", x.kind(8), 0);
        x = laid(LINE);
        due("a hem without a third: kind(1)", x.kind(1), 1);
        x = laid(0, 0, 9, 0, 0, 9);
        due("three hems: kind(2)", x.kind(2), 2);
    }

    private static void weightAs() {
        promise = 13;
        FenceTurns x = new FenceTurns();
        due("weightAs(0, 5)", x.weightAs(0, 5), -2);
        due("weightAs(0, 4)", x.weightAs(0, 4), -3);
        x = laid(KITE);
        for (int f = 0; f < 10; f++) {
            x.weigh(f, 100 + f);
        }
        x.tell(5, 1);
        x.tell(1, 2);
        x.tell(7, 1);
        int[] one = {0, 4, 3, 5, 1, 7};
        int[] kinds = {1, 2, 0, 4, 3, 4};
        int casts = 0;
        for (int i = 0; i < one.length; i++) {
            due("kind(" + one[i] + ")", x.kind(one[i]), kinds[i]);
            for (int k = 0; k <= 4; k++) {
                boolean fits = k == 0 || k == kinds[i] || k == 1 && kinds[i] == 2;
                casts += fits ? 0 : 1;
                due("weightAs(" + one[i] + ", " + k + ")", x.weightAs(one[i], k), fits ? 100 + one[i] : -13);
            }
        }
        due("casts are counted: total(7)", x.total(7), casts);
        due("weightAs(99, -1)", x.weightAs(99, -1), -2);
        due("weightAs(99, 5)", x.weightAs(99, 5), -2);
        due("weightAs(10, 4)", x.weightAs(10, 4), -1);
        due("weightAs(-1, 0)", x.weightAs(-1, 0), -1);
        due("total(7)", x.total(7), casts);
    }

    private static void crosses() {
        promise = 14;
        due("crosses(9, 9)", new FenceTurns().crosses(9, 9), -3);
        FenceTurns x = laid(KITE);
        long[] crossed = {0, 1 << 5 | 1 << 6, 0, 0, 0, 1 << 1 | 1 << 8, 1 << 1, 0, 1 << 5, 0};
        for (int f = 0; f < 10; f++) {
            for (int g = 0; g < 10; g++) {
                due("crosses(" + f + ", " + g + ")", x.crosses(f, g), crossed[f] >> g & 1);
            }
        }
        due("crosses(10, 0)", x.crosses(10, 0), -1);
        due("crosses(0, 10)", x.crosses(0, 10), -1);
        due("crosses(-1, 0)", x.crosses(-1, 0), -1);
        due("crosses(0, MIN)", x.crosses(0, MIN), -1);
    }

    private static void tell() {
        promise = 15;
        FenceTurns x = new FenceTurns();
        due("tell(0, 3)", x.tell(0, 3), -2);
        due("tell(0, -1)", x.tell(0, -1), -2);
        due("tell(0, 1)", x.tell(0, 1), -3);
        x = laid(PENTAGON);
        due("tell(10, 3)", x.tell(10, 3), -2);
        due("tell(10, 1)", x.tell(10, 1), -1);
        due("tell(-1, 2)", x.tell(-1, 2), -1);
        due("tell(5, 1)", x.tell(5, 1), -3);
        due("tell(1, 2)", x.tell(1, 2), -3);
        due("tell(0, 2)", x.tell(0, 2), -3);
        x.go(3);
        due("refused tells leave what there is: total(6)", x.total(6), 1);
        due("tell(5, 1)", x.tell(5, 1), -3);
        due("total(6)", x.total(6), 1);
        due("tell(0, 1)", x.tell(0, 1), 5);
        due("what there was to go back to is gone: total(6)", x.total(6), 0);
        due("back()", x.back(), -3);
        due("tell(1, 1)", x.tell(1, 1), 2);
        due("tell(6, 2)", x.tell(6, 2), 2);
        due("tell(1, 0)", x.tell(1, 0), 3);
        due("cutting()", x.cutting(), 923);
        due("barred, so not in it: tell(6, 1)", x.tell(6, 1), -3);
        due("tell(6, 0)", x.tell(6, 0), 5);
        due("tell(1, 1)", x.tell(1, 1), 2);
        due("held, so in it: tell(1, 2)", x.tell(1, 2), -3);
        due("total(4)", x.total(4), 2);
        x.go(0);
        due("tell(9, 0), neither already", x.tell(9, 0), 2);
        due("total(6)", x.total(6), 0);
        x = laid(PENTAGON);
        x.tell(1, 1);
        x.tell(1, 0);
        x.turn(1);
        due("told anew: tell(1, 2)", x.tell(1, 2), 3);
        due("total(4)", x.total(4), 0);
        due("total(5)", x.total(5), 1);
    }

    private static void weigh() {
        promise = 16;
        FenceTurns x = new FenceTurns();
        due("weigh(0, 1001)", x.weigh(0, 1001), -2);
        due("weigh(0, 1000)", x.weigh(0, 1000), -3);
        x = laid(SQUARE);
        due("weigh(5, 1000)", x.weigh(5, 1000), 0);
        due("weigh(5, -1000)", x.weigh(5, -1000), 1000);
        due("weigh(5, -1001)", x.weigh(5, -1001), -2);
        due("weigh(5, MAX)", x.weigh(5, MAX), -2);
        due("weigh(5, 3)", x.weigh(5, 3), -1000);
        due("weigh(6, 0)", x.weigh(6, 0), -1);
        due("weigh(-1, 0)", x.weigh(-1, 0), -1);
        due("weigh(6, MIN)", x.weigh(6, MIN), -2);
        x.turn(1);
        x.tell(4, 1);
        due("tell() leaves weights: weightAs(5, 0)", x.weightAs(5, 0), 3);
    }

    private static void cutting() {
        promise = 17;
        due("cutting()", new FenceTurns().cutting(), -3);
        FenceTurns x = laid(KITE);
        due("cutting()", x.cutting(), 765);
        x.go(2);
        due("cutting()", x.cutting(), 989);
        x.turn(6);
        due("cutting()", x.cutting(), 927);
    }

    private static void has() {
        promise = 18;
        due("has(0)", new FenceTurns().has(0), -3);
        FenceTurns x = laid(PENTAGON);
        for (int f = 0; f < 10; f++) {
            due("has(" + f + ")", x.has(f), 671 >> f & 1);
        }
        due("has(10)", x.has(10), -1);
        due("has(32)", x.has(32), -1);
        due("has(-1)", x.has(-1), -1);
        x.turn(1);
        due("has(1)", x.has(1), 0);
        due("has(5)", x.has(5), 1);
    }

    private static void thirds() {
        promise = 19;
        due("thirds()", new FenceTurns().thirds(), -3);
        due("thirds()", laid(LINE).thirds(), 0);
        due("thirds()", laid(PENTAGON).thirds(), 3);
        due("0 1 3 has a post within: thirds()", laid(KITE).thirds(), 4);
        due("thirds()", laid(OCTAGON).thirds(), 6);
        due("a post on a side: thirds()", laid(0, 0, 8, 0, 4, 8, 4, 0).thirds(), 2);
    }

    private static void third() {
        promise = 20;
        FenceTurns x = new FenceTurns();
        due("third(0, 3)", x.third(0, 3), -2);
        due("third(0, 2)", x.third(0, 2), -3);
        x = laid(KITE);
        int[] corners = {0, 1, 4, 0, 3, 4, 1, 2, 3, 1, 3, 4};
        for (int i = 0; i < 4; i++) {
            for (int what = 0; what < 3; what++) {
                due("third(" + i + ", " + what + ")", x.third(i, what), corners[3 * i + what]);
            }
        }
        due("third(4, 0)", x.third(4, 0), -9);
        due("third(-1, 0)", x.third(-1, 0), -9);
        due("third(MAX, 2)", x.third(MAX, 2), -9);
        due("third(99, -1)", x.third(99, -1), -2);
        due("third(0, 3)", x.third(0, 3), -2);
        due("third(0, 0)", laid(LINE).third(0, 0), -9);
    }

    private static void degree() {
        promise = 21;
        due("degree(0)", new FenceTurns().degree(0), -3);
        FenceTurns x = laid(PENTAGON);
        int[] degrees = {4, 2, 3, 3, 2};
        for (int p = 0; p < 5; p++) {
            due("degree(" + p + ")", x.degree(p), degrees[p]);
        }
        x.turn(2);
        due("degree(0)", x.degree(0), 3);
        due("degree(2)", x.degree(2), 4);
        due("degree(5)", x.degree(5), -1);
        due("degree(-1)", x.degree(-1), -1);
        x.post(30, 30);
        due("a post that was not laid: degree(5)", x.degree(5), -1);
    }

    private static void turns() {
        promise = 22;
        due("turns(0)", new FenceTurns().turns(0), -3);
        FenceTurns x = laid(PENTAGON);
        due("turns(1)", x.turns(1), 5);
        due("turns(2)", x.turns(2), 8);
        due("a hem: turns(0)", x.turns(0), -9);
        due("not in the cutting: turns(5)", x.turns(5), -9);
        due("turns(10)", x.turns(10), -1);
        due("turns(-1)", x.turns(-1), -1);
        x.tell(8, 2);
        due("24 is barred: turns(2)", x.turns(2), -9);
        x.tell(8, 0);
        x.tell(2, 1);
        due("03 is held: turns(2)", x.turns(2), -9);
        due("turns(1)", x.turns(1), 5);
        due("nothing was turned: cutting()", x.cutting(), 671);
        x = laid(KITE);
        x.go(2);
        due("14: turns(6)", x.turns(6), 1);
        due("24: turns(8)", x.turns(8), 5);
        due("0 and 4 on one side of 1 3: turns(3)", x.turns(3), -9);
        due("3 and 4 on one side of 0 2: turns(9)", x.turns(9), -9);
        x = laid(0, 0, 8, 0, 8, 8, 0, 8, 4, 4);
        due("post 4 on the line of 1 3: turns(2)", x.turns(2), -9);
        due("count()", x.count(), 1);
    }

    private static void turn() {
        promise = 23;
        due("turn(99)", new FenceTurns().turn(99), -3);
        FenceTurns x = laid(PENTAGON);
        due("turn(10)", x.turn(10), -1);
        due("turn(-1)", x.turn(-1), -1);
        due("turn(0)", x.turn(0), -3);
        due("turn(5)", x.turn(5), -3);
        due("total(6)", x.total(6), 0);
        due("turn(1)", x.turn(1), 5);
        due("turn(2)", x.turn(2), 6);
        due("turn(5)", x.turn(5), 8);
        due("turn(6)", x.turn(6), 1);
        due("turn(8)", x.turn(8), 2);
        due("cutting()", x.cutting(), 671);
        due("total(6)", x.total(6), 5);
        x.tell(1, 1);
        due("turn(1)", x.turn(1), -3);
        due("turn(2)", x.turn(2), 8);
        x.tell(2, 2);
        due("turn(8)", x.turn(8), -3);
    }

    private static void back() {
        promise = 24;
        due("back()", new FenceTurns().back(), -3);
        FenceTurns x = laid(PENTAGON);
        due("back()", x.back(), -3);
        int[] ways = {1, 2, 5, 6, 8, 1, 2, 5, 6, 8, 1, 2};
        long[] cuttings = new long[ways.length];
        for (int i = 0; i < ways.length; i++) {
            cuttings[i] = x.cutting();
            x.turn(ways[i]);
        }
        due("total(6)", x.total(6), 10);
        for (int left = 9; left >= 0; left--) {
            due("back()", x.back(), left);
            due("cutting()", x.cutting(), cuttings[left + 2]);
        }
        due("the latest 10 were: back()", x.back(), -3);
        due("cutting()", x.cutting(), cuttings[2]);
        x.go(3);
        x.go(3);
        x.turn(2);
        due("a refused turn is none: turn(2)", x.turn(2), -3);
        x.go(9);
        due("back()", x.back(), 1);
        due("cutting()", x.cutting(), 923);
        due("back()", x.back(), 0);
        due("cutting()", x.cutting(), cuttings[2]);
        due("back()", x.back(), -3);
        x.go(1);
        x.lay();
        due("back()", x.back(), -3);
        x.go(1);
        x.tell(0, 0);
        due("back()", x.back(), -3);
        due("cutting()", x.cutting(), 701);
    }

    private static void count() {
        promise = 25;
        due("count()", new FenceTurns().count(), -3);
        due("count()", laid(LINE).count(), 1);
        due("count()", laid(SQUARE).count(), 2);
        due("count()", laid(KITE).count(), 3);
        due("count()", laid(PENTAGON).count(), 5);
        due("count()", laid(HEXAGON).count(), 14);
        due("count()", laid(OCTAGON).count(), 132);
        FenceTurns most = laid(14, 0, 22, 60, 24, 53, 55, 33, 27, 34, 41, 38, 26, 22, 36, 36);
        due("the most that eight posts have: count()", most.count(), 150);
        FenceTurns doubled = laid(0, 0, 60, 0, 60, 60, 0, 60, 30, 5, 55, 30, 30, 55, 5, 30);
        due("the fewest: 132 - 4 * 42 + 6 * 14 - 4 * 5 + 2, count()", doubled.count(), 30);
        FenceTurns x = laid(HEXAGON);
        due("tell(2, 1)", x.tell(2, 1), 4);
        due("count()", x.count(), 4);
    }

    private static void rank() {
        promise = 26;
        due("rank()", new FenceTurns().rank(), -3);
        FenceTurns x = laid(PENTAGON);
        for (int r = 0; r < 5; r++) {
            x.go(r);
            due("rank()", x.rank(), r);
        }
        due("rank()", x.rank(), 4);
        x.tell(5, 2);
        due("among those that are asked: rank()", x.rank(), 2);
        x.tell(5, 0);
        due("rank()", x.rank(), 4);
    }

    private static void of() {
        promise = 27;
        due("of(0)", new FenceTurns().of(0), -3);
        FenceTurns x = laid(PENTAGON);
        long[] all = {671, 701, 761, 923, 985};
        for (int r = 0; r < 5; r++) {
            due("of(" + r + ")", x.of(r), all[r]);
        }
        due("of(5)", x.of(5), -1);
        due("of(-1)", x.of(-1), -1);
        due("of(MIN)", x.of(MIN), -1);
        due("cutting()", x.cutting(), 671);
        x.tell(5, 2);
        due("of(1)", x.of(1), 923);
        due("of(2)", x.of(2), 985);
        due("of(3)", x.of(3), -1);
    }

    private static void go() {
        promise = 28;
        due("go(0)", new FenceTurns().go(0), -3);
        FenceTurns x = laid(PENTAGON);
        due("go(5)", x.go(5), -1);
        due("go(-1)", x.go(-1), -1);
        due("go(4)", x.go(4), 1);
        due("cutting()", x.cutting(), 985);
        due("total(6)", x.total(6), 1);
        x.tell(5, 2);
        due("go(3)", x.go(3), -1);
        due("go(1)", x.go(1), 1);
        due("cutting()", x.cutting(), 923);
        due("total(6)", x.total(6), 1);
    }

    private static void sure() {
        promise = 29;
        due("sure(99)", new FenceTurns().sure(99), -3);
        FenceTurns x = laid(KITE);
        int[] sure = {2, 1, 2, 2, 2, 1, 1, 2, 1, 2};
        for (int f = 0; f < 10; f++) {
            due("sure(" + f + ")", x.sure(f), sure[f]);
        }
        due("sure(10)", x.sure(10), -1);
        due("sure(-1)", x.sure(-1), -1);
        x.go(2);
        x.tell(1, 2);
        due("sure(1)", x.sure(1), 0);
        due("14 is in both: sure(6)", x.sure(6), 2);
        due("sure(5)", x.sure(5), 1);
        x.tell(8, 1);
        due("sure(5)", x.sure(5), 0);
        due("sure(8)", x.sure(8), 2);
    }

    private static void best() {
        promise = 30;
        FenceTurns x = new FenceTurns();
        due("best(true)", x.best(true), -3);
        due("best(false)", x.best(false), -3);
        x = laid(PENTAGON);
        due("best(true)", x.best(true), 0);
        x.weigh(0, 10);
        x.weigh(1, -1000);
        x.weigh(2, -500);
        x.weigh(5, 700);
        x.weigh(6, 20);
        due("best(false)", x.best(false), -1490);
        due("best(true)", x.best(true), 730);
        x.tell(6, 2);
        due("best(true)", x.best(true), 210);
        x.tell(8, 2);
        due("best(false)", x.best(false), -1490);
        x = laid(OCTAGON);
        for (int f = 0; f < 28; f++) {
            x.weigh(f, 1000);
        }
        due("best(false)", x.best(false), 13000);
    }

    private static void bestRank() {
        promise = 31;
        FenceTurns x = new FenceTurns();
        due("bestRank(true)", x.bestRank(true), -3);
        due("bestRank(false)", x.bestRank(false), -3);
        x = laid(PENTAGON);
        due("the least of equals: bestRank(true)", x.bestRank(true), 0);
        due("bestRank(false)", x.bestRank(false), 0);
        x.weigh(5, 7);
        due("bestRank(true)", x.bestRank(true), 1);
        due("bestRank(false)", x.bestRank(false), 0);
        x.weigh(1, 7);
        x.weigh(2, 3);
        x.weigh(6, 3);
        due("10, 10, 10, 7, 3: bestRank(true)", x.bestRank(true), 0);
        due("bestRank(false)", x.bestRank(false), 4);
        x.weigh(8, 3);
        due("10, 10, 10, 10, 6: bestRank(false)", x.bestRank(false), 4);
        x.tell(5, 2);
        due("bestRank(false)", x.bestRank(false), 2);
        due("bestRank(true)", x.bestRank(true), 0);
    }

    private static FenceTurns partedHexagon() {
        FenceTurns x = laid(HEXAGON);
        goTo(x, 22075);
        x.tell(2, 2);
        x.tell(7, 2);
        due("two cuttings without 03, 14, 25", x.tell(11, 2), 2);
        return x;
    }

    private static void apart() {
        promise = 32;
        due("apart(0)", new FenceTurns().apart(0), -3);
        FenceTurns x = laid(PENTAGON);
        int[] apart = {0, 1, 2, 1, 2};
        for (int r = 0; r < 5; r++) {
            due("apart(" + r + ")", x.apart(r), apart[r]);
        }
        due("apart(5)", x.apart(5), -1);
        due("apart(-1)", x.apart(-1), -1);
        x.go(1);
        due("apart(4)", x.apart(4), 2);
        x.tell(6, 2);
        due("the long way, from {03,13} to {02,24}: apart(2)", x.apart(2), 2);
        x = laid(PENTAGON);
        x.go(4);
        due("apart(1)", x.apart(1), 2);
        x.tell(1, 2);
        due("apart(0)", x.apart(0), 2);
        x = partedHexagon();
        due("apart(1)", x.apart(1), -9);
        due("apart(0)", x.apart(0), 0);
    }

    private static void way() {
        promise = 33;
        due("way(0)", new FenceTurns().way(0), -3);
        FenceTurns x = laid(PENTAGON);
        int[] ways = {-9, 1, 1, 2, 2};
        for (int r = 0; r < 5; r++) {
            due("way(" + r + ")", x.way(r), ways[r]);
        }
        due("way(5)", x.way(5), -1);
        due("way(-1)", x.way(-1), -1);
        due("cutting()", x.cutting(), 671);
        x = partedHexagon();
        due("way(1)", x.way(1), -9);
        due("way(0)", x.way(0), -9);
        x = laid(HEXAGON);
        for (int r = 0; r < 14; r++) {
            x.go(0);
            int left = x.apart(r);
            for (; left > 0; left--) {
                due("apart(" + r + ")", x.apart(r), left);
                due("turn(way(" + r + ")) is free", x.turn(x.way(r)) >= 0 ? 1 : 0, 1);
            }
            due("rank()", x.rank(), r);
        }
    }

    private static void far() {
        promise = 34;
        due("far()", new FenceTurns().far(), -3);
        due("far()", laid(LINE).far(), 0);
        due("far()", laid(SQUARE).far(), 1);
        due("far()", laid(PENTAGON).far(), 2);
        due("far()", laid(HEXAGON).far(), 3);
        FenceTurns x = laid(KITE);
        due("from {13,14} to {02,24}: far()", x.far(), 2);
        x.go(2);
        due("from {14,24}: far()", x.far(), 1);
        due("far()", partedHexagon().far(), 0);
    }

    private static void crossings() {
        promise = 35;
        due("crossings(0)", new FenceTurns().crossings(0), -3);
        FenceTurns x = laid(PENTAGON);
        int[] pairs = {0, 1, 3, 1, 3};
        for (int r = 0; r < 5; r++) {
            due("crossings(" + r + ")", x.crossings(r), pairs[r]);
        }
        due("crossings(5)", x.crossings(5), -1);
        due("crossings(-1)", x.crossings(-1), -1);
        due("crossings(1)", partedHexagon().crossings(1), 6);
        due("crossings(0)", laid(LINE).crossings(0), 0);
    }

    private static void total() {
        promise = 36;
        FenceTurns x = new FenceTurns();
        due("total(9)", x.total(9), -2);
        due("total(-1)", x.total(-1), -2);
        due("total(MIN)", x.total(MIN), -2);
        x = laid(KITE);
        x.post(40, 40);
        x.tell(4, 1);
        x.tell(0, 1);
        x.tell(5, 1);
        x.tell(1, 2);
        x.tell(5, 0);
        x.turn(5);
        x.sheet(2, 0, 4);
        x.sheet(3, 0, 0);
        x.tear(7);
        x.put(0, 0, 0);
        x.weightAs(0, 3);
        x.sheet(0, 0, -1);
        x.at(2, 1, 0);
        int[] totals = {6, 5, 10, 4, 2, 1, 1, 5, 2};
        for (int what = 0; what <= 8; what++) {
            due("total(" + what + ")", x.total(what), totals[what]);
        }
        due("total(9)", x.total(9), -2);
        due("total(7)", x.total(7), 5);
        x.kind(99);
        x.turn(0);
        x.post(99, 0);
        due("refusals are not counted: total(7)", x.total(7), 5);
        due("hems on one line: total(3)", laid(LINE).total(3), 2);
        due("two hems on one line: total(3)", laid(0, 0, 8, 0, 4, 8, 4, 0).total(3), 4);
    }

    public static void main(String[] args) {
        aNewObject();
        sheet();
        tear();
        put();
        at();
        post();
        take();
        clear();
        lay();
        fence();
        end();
        kind();
        weightAs();
        crosses();
        tell();
        weigh();
        cutting();
        has();
        thirds();
        third();
        degree();
        turns();
        turn();
        back();
        count();
        rank();
        of();
        go();
        sure();
        best();
        bestRank();
        apart();
        way();
        far();
        crossings();
        total();
        System.out.println(wrong == 0 ? "all answers are as due" : wrong + " answers are not as due");
        if (wrong != 0) {
            System.exit(1);
        }
    }
}
