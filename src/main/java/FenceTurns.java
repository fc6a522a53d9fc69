/**
 * Grounds of posts cut into thirds by fences. The words (sheet, post, ground, fence, cutting,
 * third, hem, bare, turn, apart) are those of ../shared/DOC.md.
 *
 * <p>Sets of fences are ints, bit f for fence f: eight posts have 28 fences at most. All rows are
 * made with the object and used again, so that no call makes anything.
 */
public final class FenceTurns {
    public static final int UNKNOWN = -1, BAD = -2, STATE = -3, FULL = -4, NONE = -9;
    public static final int NULL = -11, PLACE = -12, CAST = -13, SIZE = -14;

    private static final int FINE = 0;

    private static final int SHEETS = 4;
    private static final int LONGEST_SHEET = 20;
    private static final int BYTES = 0, SHORTS = 1, INTS = 2, LONGS = 3;

    private static final int MOST_POSTS = 8;
    private static final int LAST_PLACE = 60;
    private static final int FEWEST_TO_LAY = 3;
    private static final int MOST_FENCES = 28;
    /** Eight posts have 150 cuttings at most; a power of two, for the search that halves it. */
    private static final int MOST_CUTTINGS = 256;

    private static final int PLAIN = 0, HEM = 1, BARE = 2, BARRED = 3, HELD = 4;
    private static final int AS_NEITHER = 0, AS_HELD = 1, AS_BARRED = 2;
    private static final int HEAVIEST = 1000;
    private static final int MOST_TO_UNDO = 10;

    private final Sheet[] sheets = new Sheet[SHEETS];
    private final Posts collected = new Posts();
    private final Ground ground = new Ground();
    private final Cuttings cuttings = new Cuttings();
    private final Asked asked = new Asked();
    private final Steps steps = new Steps();
    private final Past past = new Past();
    private final int[] weights = new int[MOST_FENCES];
    private boolean laid;
    /** The cutting at hand, as its index among all cuttings, asked or not. */
    private int now;
    private int findings;

    public FenceTurns() {
        for (int s = 0; s < SHEETS; s++) {
            sheets[s] = new Sheet();
        }
    }

    // ---- sheets, posts

    public int sheet(int sheet, int lane, int n) {
        if (!isSheet(sheet)) {
            return found(PLACE);
        }
        if (!isLane(lane) || n > LONGEST_SHEET) {
            return BAD;
        }
        if (n < 0) {
            return found(SIZE);
        }
        sheets[sheet].become(lane, n);
        return n;
    }

    public int tear(int sheet) {
        if (!isSheet(sheet)) {
            return found(PLACE);
        }
        int was = sheets[sheet].missing ? 1 : 0;
        sheets[sheet].missing = true;
        return was;
    }

    public int put(int sheet, int i, long v) {
        if (!isSheet(sheet)) {
            return found(PLACE);
        }
        Sheet row = sheets[sheet];
        if (row.missing) {
            return found(NULL);
        }
        if (!row.hasPlace(i)) {
            return found(PLACE);
        }
        row.numbers[i] = row.lowestBits(v);
        return 1;
    }

    public long at(int sheet, int lane, int i) {
        if (!isSheet(sheet)) {
            return found(PLACE);
        }
        if (!isLane(lane)) {
            return BAD;
        }
        Sheet row = sheets[sheet];
        if (row.missing) {
            return found(NULL);
        }
        if (row.lane != lane) {
            return found(CAST);
        }
        if (!row.hasPlace(i)) {
            return found(PLACE);
        }
        return row.numbers[i];
    }

    public int post(int x, int y) {
        return collect(x, y);
    }

    public int take(int sheet, int i) {
        if (!isSheet(sheet)) {
            return found(PLACE);
        }
        Sheet row = sheets[sheet];
        if (row.missing) {
            return found(NULL);
        }
        if (i < 0 || i > row.length) {
            return found(PLACE);
        }
        int came = 0;
        for (int p = i; p + 1 < row.length; p += 2) {
            if (collect(row.numbers[p], row.numbers[p + 1]) < 0) {
                break;
            }
            came++;
        }
        return came;
    }

    public int clear() {
        int were = collected.many;
        collected.many = 0;
        return were;
    }

    public int lay() {
        if (collected.many < FEWEST_TO_LAY) {
            return STATE;
        }
        ground.layOf(collected);
        cuttings.cut(ground);
        asked.askForAll(cuttings);
        past.forget();
        for (int f = 0; f < MOST_FENCES; f++) {
            weights[f] = 0;
        }
        now = 0;
        laid = true;
        return ground.fences;
    }

    // ---- fences

    public int fence(int a, int b) {
        if (!laid) {
            return STATE;
        }
        if (!ground.isPost(a) || !ground.isPost(b)) {
            return UNKNOWN;
        }
        return ground.fenceBetween(a, b);
    }

    public int end(int fence, int what) {
        if (what != 0 && what != 1) {
            return BAD;
        }
        int refusal = fenceRefusal(fence);
        if (refusal != FINE) {
            return refusal;
        }
        return what == 0 ? ground.lesser[fence] : ground.greater[fence];
    }

    public int kind(int fence) {
        int refusal = fenceRefusal(fence);
        return refusal != FINE ? refusal : kindOf(fence);
    }

    public int weightAs(int fence, int kind) {
        if (kind < PLAIN || kind > HELD) {
            return BAD;
        }
        int refusal = fenceRefusal(fence);
        if (refusal != FINE) {
            return refusal;
        }
        return isOneOf(kindOf(fence), kind) ? weights[fence] : found(CAST);
    }

    public int crosses(int f, int g) {
        int refusal = fenceRefusal(f);
        if (refusal == FINE) {
            refusal = fenceRefusal(g);
        }
        if (refusal != FINE) {
            return refusal;
        }
        return isIn(g, ground.crossing[f]) ? 1 : 0;
    }

    public int tell(int fence, int how) {
        if (how < AS_NEITHER || how > AS_BARRED) {
            return BAD;
        }
        int refusal = fenceRefusal(fence);
        if (refusal != FINE) {
            return refusal;
        }
        boolean had = isIn(fence, fencesNow());
        if (how == AS_HELD && !had || how == AS_BARRED && had) {
            return STATE;
        }
        asked.askAnew(cuttings, fence, how);
        past.forget();
        return asked.many;
    }

    public int weigh(int fence, int weight) {
        if (weight < -HEAVIEST || weight > HEAVIEST) {
            return BAD;
        }
        int refusal = fenceRefusal(fence);
        if (refusal != FINE) {
            return refusal;
        }
        int was = weights[fence];
        weights[fence] = weight;
        return was;
    }

    // ---- the cutting

    public long cutting() {
        return laid ? fencesNow() : STATE;
    }

    public int has(int fence) {
        int refusal = fenceRefusal(fence);
        if (refusal != FINE) {
            return refusal;
        }
        return isIn(fence, fencesNow()) ? 1 : 0;
    }

    public int thirds() {
        return laid ? ground.thirdsOf(fencesNow()) : STATE;
    }

    public int third(int i, int what) {
        if (what < 0 || what > 2) {
            return BAD;
        }
        return laid ? ground.cornerOf(fencesNow(), i, what) : STATE;
    }

    public int degree(int post) {
        if (!laid) {
            return STATE;
        }
        if (!ground.isPost(post)) {
            return UNKNOWN;
        }
        return Integer.bitCount(ground.fencesAt(post) & fencesNow());
    }

    public int turns(int fence) {
        int refusal = fenceRefusal(fence);
        return refusal != FINE ? refusal : comingFor(fence);
    }

    public int turn(int fence) {
        int refusal = fenceRefusal(fence);
        if (refusal != FINE) {
            return refusal;
        }
        int coming = comingFor(fence);
        if (coming == NONE) {
            return STATE;
        }
        moveTo(cuttings.afterTurn(now, fence));
        return coming;
    }

    public int back() {
        if (!laid || past.many == 0) {
            return STATE;
        }
        now = past.latest();
        return past.many;
    }

    // ---- all cuttings

    public int count() {
        return laid ? asked.many : STATE;
    }

    public int rank() {
        return laid ? asked.rankOf[now] : STATE;
    }

    public long of(int rank) {
        int refusal = rankRefusal(rank);
        return refusal != FINE ? refusal : fencesOf(rank);
    }

    public int go(int rank) {
        int refusal = rankRefusal(rank);
        if (refusal != FINE) {
            return refusal;
        }
        moveTo(asked.ranked[rank]);
        return 1;
    }

    public int sure(int fence) {
        int refusal = fenceRefusal(fence);
        if (refusal != FINE) {
            return refusal;
        }
        int having = 0;
        for (int r = 0; r < asked.many; r++) {
            if (isIn(fence, fencesOf(r))) {
                having++;
            }
        }
        if (having == 0) {
            return 0;
        }
        return having == asked.many ? 2 : 1;
    }

    public int best(boolean greatest) {
        return laid ? weightOf(fencesOf(leastBestRank(greatest))) : STATE;
    }

    public int bestRank(boolean greatest) {
        return laid ? leastBestRank(greatest) : STATE;
    }

    public int apart(int rank) {
        int refusal = rankRefusal(rank);
        if (refusal != FINE) {
            return refusal;
        }
        steps.measure(cuttings, asked, asked.ranked[rank]);
        return steps.from[now];
    }

    public int way(int rank) {
        int refusal = rankRefusal(rank);
        if (refusal != FINE) {
            return refusal;
        }
        steps.measure(cuttings, asked, asked.ranked[rank]);
        int left = steps.from[now];
        if (left == NONE || left == 0) {
            return NONE;
        }
        for (int f = 0; f < ground.fences; f++) {
            int after = cuttings.afterTurn(now, f);
            if (after != NONE && steps.from[after] == left - 1) {
                return f;
            }
        }
        return NONE;
    }

    public int far() {
        if (!laid) {
            return STATE;
        }
        steps.measure(cuttings, asked, now);
        int most = 0;
        for (int i = 0; i < cuttings.many; i++) {
            most = Math.max(most, steps.from[i]);
        }
        return most;
    }

    public int crossings(int rank) {
        int refusal = rankRefusal(rank);
        if (refusal != FINE) {
            return refusal;
        }
        int pairs = 0;
        for (int f = 0; f < ground.fences; f++) {
            if (isIn(f, fencesNow())) {
                pairs += Integer.bitCount(ground.crossing[f] & fencesOf(rank));
            }
        }
        return pairs;
    }

    public int total(int what) {
        switch (what) {
            case 0:
                return collected.many;
            case 1:
                return laid ? ground.posts.many : 0;
            case 2:
                return laid ? ground.fences : 0;
            case 3:
                return laid ? Integer.bitCount(ground.hems) : 0;
            case 4:
                return laid ? Integer.bitCount(asked.held) : 0;
            case 5:
                return laid ? Integer.bitCount(asked.barred) : 0;
            case 6:
                return laid ? past.many : 0;
            case 7:
                return findings;
            case 8:
                return sheetsThere();
            default:
                return BAD;
        }
    }

    // ---- what the calls share

    private int found(int finding) {
        findings++;
        return finding;
    }

    private static boolean isSheet(int sheet) {
        return sheet >= 0 && sheet < SHEETS;
    }

    private static boolean isLane(int lane) {
        return lane >= BYTES && lane <= LONGS;
    }

    private int sheetsThere() {
        int there = 0;
        for (int s = 0; s < SHEETS; s++) {
            if (!sheets[s].missing) {
                there++;
            }
        }
        return there;
    }

    /** Longs, since a sheet may hold numbers beyond an int, which are no places. */
    private int collect(long x, long y) {
        if (!isPlace(x) || !isPlace(y)) {
            return BAD;
        }
        if (collected.standsAt((int) x, (int) y)) {
            return STATE;
        }
        if (collected.many == MOST_POSTS) {
            return FULL;
        }
        collected.add((int) x, (int) y);
        return collected.many;
    }

    private static boolean isPlace(long x) {
        return x >= 0 && x <= LAST_PLACE;
    }

    private int fenceRefusal(int fence) {
        if (!laid) {
            return STATE;
        }
        return ground.isFence(fence) ? FINE : UNKNOWN;
    }

    private int rankRefusal(int rank) {
        if (!laid) {
            return STATE;
        }
        return rank >= 0 && rank < asked.many ? FINE : UNKNOWN;
    }

    private static boolean isIn(int fence, int set) {
        return (set >> fence & 1) != 0;
    }

    private int fencesNow() {
        return cuttings.all[now];
    }

    private int fencesOf(int rank) {
        return cuttings.all[asked.ranked[rank]];
    }

    private int kindOf(int fence) {
        if (isIn(fence, asked.held)) {
            return HELD;
        }
        if (isIn(fence, asked.barred)) {
            return BARRED;
        }
        if (!isIn(fence, ground.hems)) {
            return PLAIN;
        }
        return ground.isBare(fence, fencesNow()) ? BARE : HEM;
    }

    private static boolean isOneOf(int kind, int wanted) {
        return wanted == PLAIN || kind == wanted || wanted == HEM && kind == BARE;
    }

    /** The fence that a turn brings, or NONE: a turn is free just when it leads to an asked cutting. */
    private int comingFor(int fence) {
        int after = cuttings.afterTurn(now, fence);
        if (after == NONE || asked.rankOf[after] == NONE) {
            return NONE;
        }
        return ground.fenceAcross(fence, fencesNow());
    }

    private void moveTo(int cutting) {
        past.keep(now);
        now = cutting;
    }

    private int weightOf(int set) {
        int sum = 0;
        for (int f = 0; f < ground.fences; f++) {
            if (isIn(f, set)) {
                sum += weights[f];
            }
        }
        return sum;
    }

    private int leastBestRank(boolean greatest) {
        int bestYet = 0;
        int sumYet = weightOf(fencesOf(0));
        for (int r = 1; r < asked.many; r++) {
            int sum = weightOf(fencesOf(r));
            if (greatest ? sum > sumYet : sum < sumYet) {
                bestYet = r;
                sumYet = sum;
            }
        }
        return bestYet;
    }

    /** One row for every sheet that comes to its place. */
    private static final class Sheet {
        final long[] numbers = new long[LONGEST_SHEET];
        boolean missing = true;
        int lane;
        int length;

        void become(int newLane, int n) {
            missing = false;
            lane = newLane;
            length = n;
            for (int i = 0; i < LONGEST_SHEET; i++) {
                numbers[i] = 0;
            }
        }

        boolean hasPlace(int i) {
            return i >= 0 && i < length;
        }

        long lowestBits(long v) {
            switch (lane) {
                case BYTES:
                    return (byte) v;
                case SHORTS:
                    return (short) v;
                case INTS:
                    return (int) v;
                default:
                    return v;
            }
        }
    }

    private static final class Posts {
        final int[] x = new int[MOST_POSTS];
        final int[] y = new int[MOST_POSTS];
        int many;

        boolean standsAt(int atX, int atY) {
            for (int p = 0; p < many; p++) {
                if (x[p] == atX && y[p] == atY) {
                    return true;
                }
            }
            return false;
        }

        void add(int newX, int newY) {
            if (many < MOST_POSTS) {
                x[many] = newX;
                y[many] = newY;
                many++;
            }
        }

        void becomeThoseOf(Posts others) {
            many = 0;
            for (int p = 0; p < others.many; p++) {
                add(others.x[p], others.y[p]);
            }
        }

        /** On which side of the line of a and b post c is: 1, -1, or 0 on it. */
        int side(int a, int b, int c) {
            int turned = (x[b] - x[a]) * (y[c] - y[a]) - (y[b] - y[a]) * (x[c] - x[a]);
            return turned > 0 ? 1 : turned < 0 ? -1 : 0;
        }

        boolean areParted(int c, int d, int a, int b) {
            return side(a, b, c) * side(a, b, d) < 0;
        }

        boolean isBetween(int c, int a, int b) {
            int toEnds = (x[a] - x[c]) * (x[b] - x[c]) + (y[a] - y[c]) * (y[b] - y[c]);
            return side(a, b, c) == 0 && toEnds < 0;
        }

        boolean isWithin(int p, int a, int b, int c) {
            int side = side(a, b, p);
            return side != 0 && side == side(b, c, p) && side == side(c, a, p);
        }
    }

    /** The posts of the ground, its fences, and which of them could be three sides of a third. */
    private static final class Ground {
        final Posts posts = new Posts();
        final int[] lesser = new int[MOST_FENCES];
        final int[] greater = new int[MOST_FENCES];
        final int[] crossing = new int[MOST_FENCES];
        int fences;
        int hems;
        /** By two posts: their fence, or NONE. */
        private final int[] between = new int[MOST_POSTS * MOST_POSTS];
        /** By a fence and a post: the sides of the third that they would be, or 0. */
        private final int[] sides = new int[MOST_FENCES * MOST_POSTS];

        void layOf(Posts collected) {
            posts.becomeThoseOf(collected);
            numberFences();
            findCrossings();
            findHems();
            findSides();
        }

        boolean isPost(int post) {
            return post >= 0 && post < posts.many;
        }

        boolean isFence(int fence) {
            return fence >= 0 && fence < fences;
        }

        int fenceBetween(int a, int b) {
            return between[a * MOST_POSTS + b];
        }

        int fencesAt(int post) {
            int set = 0;
            for (int p = 0; p < posts.many; p++) {
                int f = fenceBetween(post, p);
                if (f != NONE) {
                    set |= 1 << f;
                }
            }
            return set;
        }

        int thirdsOf(int cutting) {
            int many = 0;
            for (int f = 0; f < fences; f++) {
                for (int c = greater[f] + 1; c < posts.many; c++) {
                    if (isThird(f, c, cutting)) {
                        many++;
                    }
                }
            }
            return many;
        }

        /** Since fences go by their posts, the thirds come in their order here. */
        int cornerOf(int cutting, int i, int what) {
            int ahead = 0;
            for (int f = 0; f < fences; f++) {
                for (int c = greater[f] + 1; c < posts.many; c++) {
                    if (!isThird(f, c, cutting)) {
                        continue;
                    }
                    if (ahead == i) {
                        return what == 0 ? lesser[f] : what == 1 ? greater[f] : c;
                    }
                    ahead++;
                }
            }
            return NONE;
        }

        boolean isBare(int hem, int cutting) {
            for (int c = 0; c < posts.many; c++) {
                if (isThird(hem, c, cutting)
                        && Integer.bitCount(sides[hem * MOST_POSTS + c] & hems) >= 2) {
                    return true;
                }
            }
            return false;
        }

        /** The fence that a turn of f brings, whatever is held or barred, or NONE. */
        int fenceAcross(int f, int cutting) {
            int c = NONE;
            int d = NONE;
            for (int p = 0; p < posts.many; p++) {
                if (isThird(f, p, cutting)) {
                    c = d;
                    d = p;
                }
            }
            if (c == NONE) {
                return NONE;
            }
            int a = lesser[f];
            int b = greater[f];
            boolean isFree = posts.areParted(c, d, a, b) && posts.areParted(a, b, c, d);
            return isFree ? fenceBetween(c, d) : NONE;
        }

        private boolean isThird(int f, int post, int cutting) {
            int three = sides[f * MOST_POSTS + post];
            return three != 0 && (three & cutting) == three;
        }

        private void numberFences() {
            fences = 0;
            for (int a = 0; a < posts.many; a++) {
                between[a * MOST_POSTS + a] = NONE;
                for (int b = a + 1; b < posts.many; b++) {
                    int f = isOpen(a, b) ? addFence(a, b) : NONE;
                    between[a * MOST_POSTS + b] = f;
                    between[b * MOST_POSTS + a] = f;
                }
            }
        }

        private int addFence(int a, int b) {
            lesser[fences] = a;
            greater[fences] = b;
            fences++;
            return fences - 1;
        }

        private boolean isOpen(int a, int b) {
            for (int p = 0; p < posts.many; p++) {
                if (posts.isBetween(p, a, b)) {
                    return false;
                }
            }
            return true;
        }

        private void findCrossings() {
            for (int f = 0; f < fences; f++) {
                crossing[f] = 0;
                for (int g = 0; g < fences; g++) {
                    if (doCross(f, g)) {
                        crossing[f] |= 1 << g;
                    }
                }
            }
        }

        /** No post is between a fence's ends, so that two fences never touch but at their posts. */
        private boolean doCross(int f, int g) {
            return posts.areParted(lesser[f], greater[f], lesser[g], greater[g])
                    && posts.areParted(lesser[g], greater[g], lesser[f], greater[f]);
        }

        private void findHems() {
            hems = 0;
            for (int f = 0; f < fences; f++) {
                if (isHem(f)) {
                    hems |= 1 << f;
                }
            }
        }

        private boolean isHem(int f) {
            boolean left = false;
            boolean right = false;
            for (int p = 0; p < posts.many; p++) {
                int side = posts.side(lesser[f], greater[f], p);
                left = left || side > 0;
                right = right || side < 0;
            }
            return !(left && right);
        }

        private void findSides() {
            for (int f = 0; f < fences; f++) {
                for (int c = 0; c < posts.many; c++) {
                    sides[f * MOST_POSTS + c] = sidesOf(f, c);
                }
            }
        }

        private int sidesOf(int f, int c) {
            int a = lesser[f];
            int b = greater[f];
            int toA = fenceBetween(a, c);
            int toB = fenceBetween(b, c);
            if (toA == NONE || toB == NONE || posts.side(a, b, c) == 0) {
                return 0;
            }
            for (int p = 0; p < posts.many; p++) {
                if (posts.isWithin(p, a, b, c)) {
                    return 0;
                }
            }
            return 1 << f | 1 << toA | 1 << toB;
        }
    }

    /** All cuttings of a ground in their order, whatever is asked, and what turns lead to which. */
    private static final class Cuttings {
        final int[] all = new int[MOST_CUTTINGS];
        int many;
        /** By a cutting and a fence: the cutting after its turn, or NONE. */
        private final int[] after = new int[MOST_CUTTINGS * MOST_FENCES];

        void cut(Ground ground) {
            many = 0;
            decide(this, ground, ground.fences - 1, 0, 0, 0);
            for (int i = 0; i < many; i++) {
                for (int f = 0; f < MOST_FENCES; f++) {
                    after[i * MOST_FENCES + f] = findAfter(ground, i, f);
                }
            }
        }

        int afterTurn(int cutting, int fence) {
            return after[cutting * MOST_FENCES + fence];
        }

        /**
         * Decides fence f and those below it: out first, then in, so that the cuttings come by
         * their numbers. Owed are fences that are out though nothing in crosses them yet: a
         * cutting needs one below that does. The depth is f, 28 at most.
         */
        private static void decide(Cuttings to, Ground ground, int f, int in, int crossed, int owed) {
            if (f < 0) {
                to.keep(in);
                return;
            }
            int bit = 1 << f;
            if ((crossed & bit) != 0) {
                if (canBePaid(ground, owed, crossed, f)) {
                    decide(to, ground, f - 1, in, crossed, owed);
                }
                return;
            }
            if (canBePaid(ground, owed | bit, crossed, f)) {
                decide(to, ground, f - 1, in, crossed, owed | bit);
            }
            int nowCrossed = crossed | ground.crossing[f];
            int stillOwed = owed & ~nowCrossed;
            if (canBePaid(ground, stillOwed, nowCrossed, f)) {
                decide(to, ground, f - 1, in | bit, nowCrossed, stillOwed);
            }
        }

        private static boolean canBePaid(Ground ground, int owed, int crossed, int f) {
            int free = (1 << f) - 1 & ~crossed;
            for (int g = f; g < ground.fences; g++) {
                if (isIn(g, owed) && (ground.crossing[g] & free) == 0) {
                    return false;
                }
            }
            return true;
        }

        private void keep(int cutting) {
            if (many < MOST_CUTTINGS) {
                all[many] = cutting;
                many++;
            }
        }

        private int findAfter(Ground ground, int i, int f) {
            int coming = isIn(f, all[i]) ? ground.fenceAcross(f, all[i]) : NONE;
            return coming == NONE ? NONE : indexOf(all[i] & ~(1 << f) | 1 << coming);
        }

        private int indexOf(int cutting) {
            int index = 0;
            for (int step = MOST_CUTTINGS / 2; step > 0; step /= 2) {
                if (index + step < many && all[index + step] <= cutting) {
                    index += step;
                }
            }
            return all[index] == cutting ? index : NONE;
        }
    }

    /** Which cuttings have all held fences and no barred ones. */
    private static final class Asked {
        final int[] ranked = new int[MOST_CUTTINGS];
        /** By a cutting's index: its rank, or NONE if it is not asked. */
        final int[] rankOf = new int[MOST_CUTTINGS];
        int many;
        int held;
        int barred;

        void askForAll(Cuttings cuttings) {
            held = 0;
            barred = 0;
            rankThem(cuttings);
        }

        void askAnew(Cuttings cuttings, int fence, int how) {
            int bit = 1 << fence;
            held &= ~bit;
            barred &= ~bit;
            if (how == AS_HELD) {
                held |= bit;
            }
            if (how == AS_BARRED) {
                barred |= bit;
            }
            rankThem(cuttings);
        }

        private void rankThem(Cuttings cuttings) {
            many = 0;
            for (int i = 0; i < cuttings.many; i++) {
                rankOf[i] = NONE;
                int cutting = cuttings.all[i];
                if ((cutting & held) == held && (cutting & barred) == 0) {
                    rankOf[i] = many;
                    ranked[many] = i;
                    many++;
                }
            }
        }
    }

    /** How many turns lead to each cutting from one: a free turn is free to be turned back too. */
    private static final class Steps {
        /** By a cutting's index: the fewest turns, or NONE. */
        final int[] from = new int[MOST_CUTTINGS];
        private final int[] reached = new int[MOST_CUTTINGS];
        private int many;

        void measure(Cuttings cuttings, Asked asked, int start) {
            for (int i = 0; i < cuttings.many; i++) {
                from[i] = NONE;
            }
            many = 0;
            reach(start, 0);
            for (int next = 0; next < MOST_CUTTINGS && next < many; next++) {
                int cutting = reached[next];
                for (int f = 0; f < MOST_FENCES; f++) {
                    int after = cuttings.afterTurn(cutting, f);
                    if (after != NONE && asked.rankOf[after] != NONE && from[after] == NONE) {
                        reach(after, from[cutting] + 1);
                    }
                }
            }
        }

        private void reach(int cutting, int turns) {
            from[cutting] = turns;
            if (many < MOST_CUTTINGS) {
                reached[many] = cutting;
                many++;
            }
        }
    }

    /** The cuttings to go back to: the latest ten, the oldest giving way. */
    private static final class Past {
        int many;
        private final int[] kept = new int[MOST_TO_UNDO];
        private int next;

        void forget() {
            many = 0;
        }

        void keep(int cutting) {
            kept[next] = cutting;
            next = (next + 1) % MOST_TO_UNDO;
            many = Math.min(many + 1, MOST_TO_UNDO);
        }

        int latest() {
            next = (next + MOST_TO_UNDO - 1) % MOST_TO_UNDO;
            many--;
            return kept[next];
        }
    }
}
