import java.util.ArrayDeque;
import java.util.ArrayList;
import java.util.Arrays;
import java.util.Deque;
import java.util.List;
import java.util.Map;
import java.util.TreeMap;

/**
 * Long runs of calls, the same each time, against a model that is written straight from the
 * document in another way: it works cuttings out by trying all sets of fences, thirds by areas,
 * crossings by where two lines meet, and turns by the words of part 2 alone.
 */
public final class ModelTests {
    private static final int RUNS = 600;
    private static final int CALLS = 512;
    private static final int MOST_TOLD = 20;

    private static long seed = 20261118;
    private static int wrong;

    private static int upTo(int bound) {
        seed = seed * 6364136223846793005L + 1442695040888963407L;
        return (int) ((seed >>> 33) % bound);
    }

    /** A number of 0 .. most, now and then one beyond at either end. */
    private static int about(int most) {
        int[] beyond = {-1, most + 1, most + 2, 31, 32, 64, Integer.MIN_VALUE, Integer.MAX_VALUE};
        return upTo(12) == 0 ? beyond[upTo(beyond.length)] : upTo(most + 1);
    }

    /** The places that a run draws from: few of them for many posts in one line. */
    private static int place(int run) {
        int[] widths = {3, 4, 6, 10, 61};
        int width = widths[run % widths.length];
        return upTo(40) == 0 ? about(60) : upTo(width) * (60 / width);
    }

    private static long aNumber(int run) {
        return upTo(15) == 0 ? seed : upTo(30) == 0 ? 1L << 32 : place(run);
    }

    private static void run(int run) {
        FenceTurns real = new FenceTurns();
        Model model = new Model();
        int first = 3 + upTo(6);
        for (int i = 0; i < CALLS; i++) {
            String call = i < first ? "post" : i == first ? "lay" : aCall();
            long[] with = arguments(call, run, model);
            long got = answer(real, call, with);
            long due = model.answer(call, with);
            if (got != due) {
                wrong++;
                if (wrong <= MOST_TOLD) {
                    System.out.println("run " + run + ", call " + i + ": " + call + Arrays.toString(with)
                            + " answered " + got + ", due is " + due);
                }
                return;
            }
        }
    }

    private static String aCall() {
        String[] rare = {"lay", "clear", "post", "take", "take", "sheet", "tear", "put", "put", "at", "tell"};
        String[] often = {"fence", "end", "kind", "weightAs", "crosses", "tell", "weigh", "cutting", "has",
            "thirds", "third", "degree", "turns", "turn", "turn", "back", "back", "count", "rank", "of", "go",
            "sure", "best", "bestRank", "apart", "way", "far", "crossings", "total", "total"};
        return upTo(4) == 0 ? rare[upTo(rare.length)] : often[upTo(often.length)];
    }

    private static long[] arguments(String call, int run, Model m) {
        int fence = about(Math.max(1, m.fences.size() - 1));
        int post = about(Math.max(1, m.ground.size() - 1));
        int rank = about(Math.max(1, m.asked().size() - 1));
        switch (call) {
            case "sheet": return new long[] {about(3), about(3), about(20)};
            case "tear": return new long[] {about(3)};
            case "put": return new long[] {about(3), about(19), aNumber(run)};
            case "at": return new long[] {about(3), about(3), about(19)};
            case "take": return new long[] {about(3), about(20)};
            case "post": return new long[] {place(run), place(run)};
            case "fence": return new long[] {post, about(7)};
            case "end": return new long[] {fence, about(1)};
            case "weightAs": return new long[] {fence, about(4)};
            case "crosses": return new long[] {fence, about(Math.max(1, m.fences.size() - 1))};
            case "tell": return new long[] {fence, about(2)};
            case "weigh": return new long[] {fence, upTo(9) == 0 ? about(1000) : upTo(5) - 2};
            case "third": return new long[] {about(8), about(2)};
            case "degree": return new long[] {post};
            case "of": case "go": case "apart": case "way": case "crossings": return new long[] {rank};
            case "best": case "bestRank": return new long[] {upTo(2)};
            case "total": return new long[] {about(8)};
            case "kind": case "has": case "turns": case "turn": case "sure": return new long[] {fence};
            default: return new long[0];
        }
    }

    private static long answer(FenceTurns x, String call, long[] with) {
        int a = with.length > 0 ? (int) with[0] : 0;
        int b = with.length > 1 ? (int) with[1] : 0;
        switch (call) {
            case "sheet": return x.sheet(a, b, (int) with[2]);
            case "tear": return x.tear(a);
            case "put": return x.put(a, b, with[2]);
            case "at": return x.at(a, b, (int) with[2]);
            case "post": return x.post(a, b);
            case "take": return x.take(a, b);
            case "clear": return x.clear();
            case "lay": return x.lay();
            case "fence": return x.fence(a, b);
            case "end": return x.end(a, b);
            case "kind": return x.kind(a);
            case "weightAs": return x.weightAs(a, b);
            case "crosses": return x.crosses(a, b);
            case "tell": return x.tell(a, b);
            case "weigh": return x.weigh(a, b);
            case "cutting": return x.cutting();
            case "has": return x.has(a);
            case "thirds": return x.thirds();
            case "third": return x.third(a, b);
            case "degree": return x.degree(a);
            case "turns": return x.turns(a);
            case "turn": return x.turn(a);
            case "back": return x.back();
            case "count": return x.count();
            case "rank": return x.rank();
            case "of": return x.of(a);
            case "go": return x.go(a);
            case "sure": return x.sure(a);
            case "best": return x.best(a == 1);
            case "bestRank": return x.bestRank(a == 1);
            case "apart": return x.apart(a);
            case "way": return x.way(a);
            case "far": return x.far();
            case "crossings": return x.crossings(a);
            case "total": return x.total(a);
            default: throw new IllegalArgumentException(call);
        }
    }

    public static void main(String[] args) {
        for (int run = 0; run < RUNS; run++) {
            run(run);
        }
        System.out.println(wrong == 0 ? "all answers are as due" : wrong + " runs are not as due");
        if (wrong != 0) {
            System.exit(1);
        }
    }

    /** The document, told in lists and maps. */
    private static final class Model {
        private static final int UNKNOWN = -1, BAD = -2, STATE = -3, FULL = -4, NONE = -9;
        private static final int NULL = -11, PLACE = -12, CAST = -13, SIZE = -14;

        private final long[][] rows = new long[4][];
        private final int[] lanes = new int[4];
        private final List<int[]> posts = new ArrayList<>();
        private final Deque<Long> past = new ArrayDeque<>();
        private List<int[]> ground = List.of();
        private List<int[]> fences = List.of();
        private List<Long> all = List.of();
        private long[] crossed;
        private List<Long> asked = List.of();
        private int[] told;
        private int[] weights;
        private long now;
        private int findings;

        List<Long> asked() {
            return asked;
        }

        long answer(String call, long[] with) {
            if (!isOfSheets(call)) {
                return ofGround(call, with);
            }
            long answer = ofSheets(call, with);
            // at() counts its own, since a number on a sheet may look like a finding
            if (answer <= NULL && !call.equals("at")) {
                findings++;
            }
            return answer;
        }

        private static boolean isOfSheets(String call) {
            return List.of("sheet", "tear", "put", "at", "post", "take", "clear", "lay").contains(call);
        }

        private long ofSheets(String call, long[] with) {
            int s = with.length > 0 ? (int) with[0] : 0;
            boolean isSheet = s >= 0 && s <= 3;
            switch (call) {
                case "sheet":
                    if (!isSheet) return PLACE;
                    if (with[1] < 0 || with[1] > 3 || with[2] > 20) return BAD;
                    if (with[2] < 0) return SIZE;
                    rows[s] = new long[(int) with[2]];
                    lanes[s] = (int) with[1];
                    return with[2];
                case "tear":
                    if (!isSheet) return PLACE;
                    boolean was = rows[s] == null;
                    rows[s] = null;
                    return was ? 1 : 0;
                case "put":
                    if (!isSheet) return PLACE;
                    if (rows[s] == null) return NULL;
                    if (with[1] < 0 || with[1] >= rows[s].length) return PLACE;
                    int out = 64 - (8 << lanes[s]);
                    rows[s][(int) with[1]] = with[2] << out >> out;
                    return 1;
                case "at":
                    long finding = !isSheet ? PLACE : with[1] < 0 || with[1] > 3 ? BAD : rows[s] == null ? NULL
                            : lanes[s] != with[1] ? CAST : with[2] < 0 || with[2] >= rows[s].length ? PLACE : 0;
                    if (finding == 0) return rows[s][(int) with[2]];
                    findings += finding == BAD ? 0 : 1;
                    return finding;
                case "post":
                    return post(with[0], with[1]);
                case "take":
                    if (!isSheet) return PLACE;
                    if (rows[s] == null) return NULL;
                    if (with[1] < 0 || with[1] > rows[s].length) return PLACE;
                    int came = 0;
                    for (int i = (int) with[1]; i <= rows[s].length - 2; i += 2) {
                        if (post(rows[s][i], rows[s][i + 1]) < 0) return came;
                        came++;
                    }
                    return came;
                case "clear":
                    int were = posts.size();
                    posts.clear();
                    return were;
                default:
                    if (posts.size() < 3) return STATE;
                    lay();
                    return fences.size();
            }
        }

        private long post(long x, long y) {
            if (x < 0 || x > 60 || y < 0 || y > 60) return BAD;
            for (int[] p : posts) {
                if (p[0] == x && p[1] == y) return STATE;
            }
            if (posts.size() == 8) return FULL;
            posts.add(new int[] {(int) x, (int) y});
            return posts.size();
        }

        private void lay() {
            ground = new ArrayList<>(posts);
            fences = new ArrayList<>();
            for (int a = 0; a < ground.size(); a++) {
                for (int b = a + 1; b < ground.size(); b++) {
                    if (isOpen(a, b)) fences.add(new int[] {a, b});
                }
            }
            crossed = new long[fences.size()];
            for (int f = 0; f < fences.size(); f++) {
                for (int g = 0; g < fences.size(); g++) {
                    if (f != g && doCross(fences.get(f), fences.get(g))) crossed[f] |= 1L << g;
                }
            }
            all = new ArrayList<>();
            tryAll(0, 0);
            all.sort(null);
            told = new int[fences.size()];
            weights = new int[fences.size()];
            past.clear();
            askAnew();
            now = all.get(0);
        }

        private boolean isOpen(int a, int b) {
            int[] p = ground.get(a);
            int[] q = ground.get(b);
            for (int[] r : ground) {
                boolean isInBox = r[0] >= Math.min(p[0], q[0]) && r[0] <= Math.max(p[0], q[0])
                        && r[1] >= Math.min(p[1], q[1]) && r[1] <= Math.max(p[1], q[1]);
                if (r != p && r != q && isInBox && twiceArea(p, q, r) == 0) return false;
            }
            return true;
        }

        private static int twiceArea(int[] p, int[] q, int[] r) {
            return p[0] * (q[1] - r[1]) + q[0] * (r[1] - p[1]) + r[0] * (p[1] - q[1]);
        }

        /** Where the lines p + t (q - p), r + u (s - r) meet: within both, if 0 < t, u < 1. */
        private boolean doCross(int[] f, int[] g) {
            int[] p = ground.get(f[0]);
            int[] q = ground.get(f[1]);
            int[] r = ground.get(g[0]);
            int[] s = ground.get(g[1]);
            int below = (q[0] - p[0]) * (s[1] - r[1]) - (q[1] - p[1]) * (s[0] - r[0]);
            if (below == 0) return false;
            int t = (r[0] - p[0]) * (s[1] - r[1]) - (r[1] - p[1]) * (s[0] - r[0]);
            int u = (r[0] - p[0]) * (q[1] - p[1]) - (r[1] - p[1]) * (q[0] - p[0]);
            if (below < 0) {
                below = -below;
                t = -t;
                u = -u;
            }
            return t > 0 && t < below && u > 0 && u < below;
        }

        private void tryAll(int f, long set) {
            if (f == fences.size()) {
                for (int g = 0; g < f; g++) {
                    if ((set >> g & 1) == 0 && (crossed[g] & set) == 0) return;
                }
                all.add(set);
                return;
            }
            if ((crossed[f] & set) == 0) tryAll(f + 1, set | 1L << f);
            if (crossed[f] != 0) tryAll(f + 1, set);
        }

        private void askAnew() {
            asked = new ArrayList<>();
            for (long c : all) {
                boolean isAsked = true;
                for (int f = 0; f < fences.size(); f++) {
                    boolean has = (c >> f & 1) != 0;
                    if (told[f] == 1 && !has || told[f] == 2 && has) isAsked = false;
                }
                if (isAsked) asked.add(c);
            }
        }

        private int between(int a, int b) {
            for (int f = 0; f < fences.size(); f++) {
                if (fences.get(f)[0] == Math.min(a, b) && fences.get(f)[1] == Math.max(a, b)) return f;
            }
            return NONE;
        }

        private List<int[]> thirds(long cutting) {
            List<int[]> thirds = new ArrayList<>();
            for (int a = 0; a < ground.size(); a++) {
                for (int b = a + 1; b < ground.size(); b++) {
                    for (int c = b + 1; c < ground.size(); c++) {
                        if (has(cutting, a, b) && has(cutting, a, c) && has(cutting, b, c) && isHollow(a, b, c)) {
                            thirds.add(new int[] {a, b, c});
                        }
                    }
                }
            }
            return thirds;
        }

        private boolean has(long cutting, int a, int b) {
            int f = between(a, b);
            return f != NONE && (cutting >> f & 1) != 0;
        }

        private boolean isHollow(int a, int b, int c) {
            int[] p = ground.get(a);
            int[] q = ground.get(b);
            int[] r = ground.get(c);
            int area = Math.abs(twiceArea(p, q, r));
            if (area == 0) return false;
            for (int[] s : ground) {
                int pq = Math.abs(twiceArea(p, q, s));
                int qr = Math.abs(twiceArea(q, r, s));
                int rp = Math.abs(twiceArea(r, p, s));
                if (pq > 0 && qr > 0 && rp > 0 && pq + qr + rp == area) return false;
            }
            return true;
        }

        private boolean isHem(int f) {
            int most = 0;
            int least = 0;
            for (int[] p : ground) {
                int area = twiceArea(ground.get(fences.get(f)[0]), ground.get(fences.get(f)[1]), p);
                most = Math.max(most, area);
                least = Math.min(least, area);
            }
            return most == 0 || least == 0;
        }

        private int kind(int f) {
            if (told[f] != 0) return told[f] == 1 ? 4 : 3;
            if (!isHem(f)) return 0;
            for (int[] t : thirds(now)) {
                int[] three = {between(t[0], t[1]), between(t[0], t[2]), between(t[1], t[2])};
                int hems = 0;
                boolean isOfIt = false;
                for (int side : three) {
                    hems += isHem(side) ? 1 : 0;
                    isOfIt |= side == f;
                }
                if (isOfIt && hems >= 2) return 2;
            }
            return 1;
        }

        private int coming(long cutting, int f) {
            if ((cutting >> f & 1) == 0 || told[f] == 1) return NONE;
            int a = fences.get(f)[0];
            int b = fences.get(f)[1];
            List<Integer> others = new ArrayList<>();
            for (int[] t : thirds(cutting)) {
                List<Integer> corners = new ArrayList<>(List.of(t[0], t[1], t[2]));
                if (corners.contains(a) && corners.contains(b)) {
                    corners.remove((Integer) a);
                    corners.remove((Integer) b);
                    others.addAll(corners);
                }
            }
            if (others.size() != 2) return NONE;
            int[] c = ground.get(others.get(0));
            int[] d = ground.get(others.get(1));
            int[] p = ground.get(a);
            int[] q = ground.get(b);
            if ((long) twiceArea(p, q, c) * twiceArea(p, q, d) >= 0) return NONE;
            if ((long) twiceArea(c, d, p) * twiceArea(c, d, q) >= 0) return NONE;
            int g = between(others.get(0), others.get(1));
            return told[g] == 2 ? NONE : g;
        }

        private long turned(long cutting, int f, int coming) {
            return cutting ^ 1L << f ^ 1L << coming;
        }

        /** How many turns lead from a cutting to each that they lead to. */
        private Map<Long, Integer> apartFrom(long start) {
            Map<Long, Integer> apart = new TreeMap<>();
            Deque<Long> waiting = new ArrayDeque<>();
            apart.put(start, 0);
            waiting.add(start);
            while (!waiting.isEmpty()) {
                long c = waiting.remove();
                for (int f = 0; f < fences.size(); f++) {
                    int g = coming(c, f);
                    if (g == NONE) continue;
                    long next = turned(c, f, g);
                    if (apart.putIfAbsent(next, apart.get(c) + 1) == null) waiting.add(next);
                }
            }
            return apart;
        }

        private int sum(long cutting) {
            int sum = 0;
            for (int f = 0; f < fences.size(); f++) {
                if ((cutting >> f & 1) != 0) sum += weights[f];
            }
            return sum;
        }

        private int bestRank(boolean greatest) {
            int best = 0;
            for (int r = 0; r < asked.size(); r++) {
                int more = sum(asked.get(r)) - sum(asked.get(best));
                if (greatest ? more > 0 : more < 0) best = r;
            }
            return best;
        }

        private void moveTo(long cutting) {
            past.push(now);
            if (past.size() > 10) past.removeLast();
            now = cutting;
        }

        private int refusal(String call, long[] with) {
            boolean isLaid = !ground.isEmpty();
            int a = with.length > 0 ? (int) with[0] : 0;
            int b = with.length > 1 ? (int) with[1] : 0;
            boolean isBad = call.equals("end") && (b < 0 || b > 1) || call.equals("weightAs") && (b < 0 || b > 4)
                    || call.equals("tell") && (b < 0 || b > 2) || call.equals("third") && (b < 0 || b > 2)
                    || call.equals("weigh") && (b < -1000 || b > 1000);
            if (isBad) return BAD;
            if (!isLaid) return STATE;
            boolean isUnknown;
            switch (call) {
                case "fence":
                    isUnknown = !isOf(ground, a) || !isOf(ground, b);
                    break;
                case "crosses":
                    isUnknown = !isOf(fences, a) || !isOf(fences, b);
                    break;
                case "degree":
                    isUnknown = !isOf(ground, a);
                    break;
                case "of": case "go": case "apart": case "way": case "crossings":
                    isUnknown = !isOf(asked, a);
                    break;
                case "end": case "kind": case "weightAs": case "tell": case "weigh": case "has": case "turns":
                case "turn": case "sure":
                    isUnknown = !isOf(fences, a);
                    break;
                default:
                    isUnknown = false;
            }
            return isUnknown ? UNKNOWN : 0;
        }

        private static boolean isOf(List<?> list, int i) {
            return i >= 0 && i < list.size();
        }

        private long ofGround(String call, long[] with) {
            int a = with.length > 0 ? (int) with[0] : 0;
            int b = with.length > 1 ? (int) with[1] : 0;
            if (call.equals("total")) return total(a);
            int refusal = refusal(call, with);
            if (refusal != 0) return refusal;
            switch (call) {
                case "fence": return between(a, b);
                case "end": return fences.get(a)[b];
                case "kind": return kind(a);
                case "weightAs":
                    int k = kind(a);
                    if (b == 0 || b == k || b == 1 && k == 2) return weights[a];
                    findings++;
                    return CAST;
                case "crosses": return crossed[a] >> b & 1;
                case "tell":
                    boolean has = (now >> a & 1) != 0;
                    if (b == 1 && !has || b == 2 && has) return STATE;
                    told[a] = b;
                    askAnew();
                    past.clear();
                    return asked.size();
                case "weigh":
                    int was = weights[a];
                    weights[a] = b;
                    return was;
                case "cutting": return now;
                case "has": return now >> a & 1;
                case "thirds": return thirds(now).size();
                case "third": return isOf(thirds(now), a) ? thirds(now).get(a)[b] : NONE;
                case "degree":
                    int degree = 0;
                    for (int p = 0; p < ground.size(); p++) degree += has(now, a, p) ? 1 : 0;
                    return degree;
                default: return ofTurns(call, a);
            }
        }

        private long ofTurns(String call, int a) {
            switch (call) {
                case "turns": return coming(now, a);
                case "turn":
                    int g = coming(now, a);
                    if (g == NONE) return STATE;
                    moveTo(turned(now, a, g));
                    return g;
                case "back":
                    if (past.isEmpty()) return STATE;
                    now = past.pop();
                    return past.size();
                case "count": return asked.size();
                case "rank": return asked.indexOf(now);
                case "of": return asked.get(a);
                case "go":
                    moveTo(asked.get(a));
                    return 1;
                case "sure":
                    int having = 0;
                    for (long c : asked) having += c >> a & 1;
                    return having == asked.size() ? 2 : having > 0 ? 1 : 0;
                case "best": return sum(asked.get(bestRank(a == 1)));
                case "bestRank": return bestRank(a == 1);
                case "apart": return apartFrom(now).getOrDefault(asked.get(a), NONE);
                case "way":
                    Map<Long, Integer> left = apartFrom(asked.get(a));
                    for (int f = 0; f < fences.size() && left.containsKey(now); f++) {
                        int h = coming(now, f);
                        if (h != NONE && left.get(turned(now, f, h)) == left.get(now) - 1) return f;
                    }
                    return NONE;
                case "far":
                    int far = 0;
                    for (int apart : apartFrom(now).values()) far = Math.max(far, apart);
                    return far;
                case "crossings":
                    int pairs = 0;
                    for (int f = 0; f < fences.size(); f++) {
                        if ((now >> f & 1) != 0) pairs += Long.bitCount(crossed[f] & asked.get(a));
                    }
                    return pairs;
                default: throw new IllegalArgumentException(call);
            }
        }

        private long total(int what) {
            int hems = 0;
            int held = 0;
            int barred = 0;
            for (int f = 0; f < fences.size(); f++) {
                hems += isHem(f) ? 1 : 0;
                held += told[f] == 1 ? 1 : 0;
                barred += told[f] == 2 ? 1 : 0;
            }
            int there = 0;
            for (long[] row : rows) there += row == null ? 0 : 1;
            long[] totals = {posts.size(), ground.size(), fences.size(), hems, held, barred, past.size(), findings,
                there};
            return what < 0 || what > 8 ? BAD : totals[what];
        }
    }
}
