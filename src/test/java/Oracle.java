import java.util.ArrayList;
import java.util.Arrays;
import java.util.List;
import java.util.regex.Pattern;

/**
 * The document told once more, by other means than the class: texts by a pattern, ways as lists that are
 * compared whole, shortcuts by going through rows of arcs one by one, unpacking by recursion.
 */
final class Oracle {
    static final int NONE = -1, UNKNOWN = -101, OUTSIDE = -102, STATE = -103, FULL = -104, BARRED = -5;
    private static final String ROAD = "(?:(?!aa|bb|cc|dd|ee|ff|gg|hh)[a-h][a-h][1-9][0-9]?)";
    private static final Pattern ROADS = Pattern.compile(ROAD + "(?:," + ROAD + "){0,11}");
    private static final String[] ENDINGS = {"", "1", "a1", "b1", "ab1"};

    private record Arc(int worth, int middle) {
    }

    private String page = "";
    private int n = 0;
    private int[] begin = {}, end = {}, length = {};
    private Integer[][] cost = {};
    private int[] rankOf = {};
    private Arc[][] arcs = {};
    private int readings = 0, alterations = 0, rankings = 0;

    // what follows from roads and turns: kept until they are altered
    private List<Integer>[][] theWays = null;
    private int[] lossless = null;

    int letter(int code) {
        if (code < 32 || code > 126) {
            return OUTSIDE;
        }
        if (page.length() == 60) {
            return FULL;
        }
        page += (char) code;
        return page.length();
    }

    int blank() {
        int had = page.length();
        page = "";
        return had;
    }

    int fault() {
        for (int i = 0; i < page.length(); i++) {
            String ahead = page.substring(0, i + 1);
            if (Arrays.stream(ENDINGS).noneMatch(ending -> ROADS.matcher(ahead + ending).matches())) {
                return i;
            }
        }
        return page.length();
    }

    int roads() {
        if (!ROADS.matcher(page).matches()) {
            return STATE;
        }
        String[] texts = page.split(",");
        page = "";
        n = texts.length;
        begin = new int[n];
        end = new int[n];
        length = new int[n];
        for (int r = 0; r < n; r++) {
            begin[r] = "abcdefgh".indexOf(texts[r].charAt(0));
            end[r] = "abcdefgh".indexOf(texts[r].charAt(1));
            length[r] = Integer.parseInt(texts[r].substring(2));
        }
        cost = new Integer[n][n];
        for (int r = 0; r < n; r++) {
            for (int s = 0; s < n; s++) {
                if (end[r] == begin[s]) {
                    cost[r][s] = begin[r] == end[s] ? BARRED : 0;
                }
            }
        }
        readings++;
        makeArcs(null);
        return n;
    }

    int stretch(int road, int v) {
        if (unknown(road)) {
            return UNKNOWN;
        }
        if (v < 1 || v > 99) {
            return OUTSIDE;
        }
        int before = length[road];
        length[road] = v;
        alterations++;
        makeArcs(rankOf);
        return before;
    }

    int turn(int r, int s, int v) {
        if (unknown(r) || unknown(s)) {
            return UNKNOWN;
        }
        if (cost[r][s] == null) {
            return STATE;
        }
        if (v != BARRED && (v < 0 || v > 50)) {
            return OUTSIDE;
        }
        int before = cost[r][s];
        cost[r][s] = v;
        alterations++;
        makeArcs(rankOf);
        return before;
    }

    int rank() {
        int[] before = rankOf;
        makeArcs(null);
        rankings++;
        int other = 0;
        for (int r = 0; r < n; r++) {
            other += before[r] == rankOf[r] ? 0 : 1;
        }
        return other;
    }

    int road(int road, int what) {
        if (unknown(road)) {
            return UNKNOWN;
        }
        return switch (what) {
            case 0 -> begin[road];
            case 1 -> end[road];
            case 2 -> length[road];
            case 3 -> rankOf[road];
            case 4 -> arcsWithMiddle(road);
            case 5 -> busy(road);
            default -> OUTSIDE;
        };
    }

    int cost(int r, int s) {
        if (unknown(r) || unknown(s)) {
            return UNKNOWN;
        }
        return cost[r][s] == null ? STATE : cost[r][s];
    }

    int order(int rank) {
        for (int r = 0; r < n; r++) {
            if (rankOf[r] == rank) {
                return r;
            }
        }
        return UNKNOWN;
    }

    int least(int r, int s) {
        return unknown(r) || unknown(s) ? UNKNOWN : worth(theWay(r, s));
    }

    int way(int r, int s, int place) {
        if (unknown(r) || unknown(s)) {
            return UNKNOWN;
        }
        List<Integer> way = theWay(r, s);
        return way == null || place < 0 || place >= way.size() ? NONE : way.get(place);
    }

    int arc(int r, int s, int what) {
        if (unknown(r) || unknown(s)) {
            return UNKNOWN;
        }
        if (what < 0 || what > 3) {
            return OUTSIDE;
        }
        Arc arc = arcs[r][s];
        if (arc == null) {
            return NONE;
        }
        return switch (what) {
            case 0 -> arc.worth;
            case 1 -> arc.middle;
            case 2 -> rankOf[s] > rankOf[r] ? 1 : 0;
            default -> standsFor(r, s).size();
        };
    }

    int unpacked(int r, int s, int place) {
        if (unknown(r) || unknown(s)) {
            return UNKNOWN;
        }
        if (arcs[r][s] == null) {
            return NONE;
        }
        List<Integer> roads = standsFor(r, s);
        return place < 0 || place >= roads.size() ? NONE : roads.get(place);
    }

    int up(int r, int s) {
        return unknown(r) || unknown(s) ? UNKNOWN : climb(r, s, 1);
    }

    int down(int r, int s) {
        return unknown(r) || unknown(s) ? UNKNOWN : climb(r, s, -1);
    }

    int meet(int r, int s) {
        if (unknown(r) || unknown(s)) {
            return UNKNOWN;
        }
        int best = NONE;
        int bestWorth = Integer.MAX_VALUE;
        for (int m = 0; m < n; m++) {
            int u = climb(r, m, 1);
            int d = climb(m, s, -1);
            if (u != NONE && d != NONE && u + d < bestWorth) {
                best = m;
                bestWorth = u + d;
            }
        }
        return best;
    }

    int route(int from, int to) {
        if (from < 0 || from > 7 || to < 0 || to > 7) {
            return UNKNOWN;
        }
        return from == to ? STATE : routeWithout(from, to, NONE);
    }

    int loss(int road, int k) {
        if (unknown(road)) {
            return UNKNOWN;
        }
        if (k < 0 || k > 999) {
            return OUTSIDE;
        }
        int together = 0;
        for (int from = 0; from < 8; from++) {
            for (int to = 0; to < 8; to++) {
                if (from != to && route(from, to) != NONE) {
                    int longer = routeWithout(from, to, road);
                    together += longer == NONE ? k : longer - route(from, to);
                }
            }
        }
        return together;
    }

    int all(int what) {
        int most = NONE;
        for (int r = 0; r < n && what <= 1; r++) {
            if (most == NONE || busy(r) > busy(most)) {
                most = r;
            }
        }
        int arcCount = 0;
        int shortcutCount = 0;
        for (Arc[] row : arcs) {
            for (Arc arc : row) {
                arcCount += arc == null ? 0 : 1;
                shortcutCount += arc == null || arc.middle == NONE ? 0 : 1;
            }
        }
        int pairs = 0;
        int sum = 0;
        for (int from = 0; from < 8; from++) {
            for (int to = 0; to < 8; to++) {
                if (from != to && route(from, to) != NONE) {
                    pairs++;
                    sum += route(from, to);
                }
            }
        }
        return switch (what) {
            case 0 -> most;
            case 1 -> most == NONE ? 0 : busy(most);
            case 2 -> arcCount;
            case 3 -> shortcutCount;
            case 4 -> pairs;
            case 5 -> sum;
            default -> OUTSIDE;
        };
    }

    int count(int what) {
        int turns = 0;
        int barred = 0;
        for (Integer[] row : cost) {
            for (Integer v : row) {
                turns += v == null ? 0 : 1;
                barred += v != null && v == BARRED ? 1 : 0;
            }
        }
        int[] counts = {n, page.length(), turns, barred, readings, alterations, rankings};
        return what < 0 || what >= counts.length ? OUTSIDE : counts[what];
    }

    long digest() {
        List<Integer> numbers = new ArrayList<>();
        for (int r = 0; r < n; r++) {
            for (int what = 0; what < 6; what++) {
                numbers.add(road(r, what));
            }
        }
        for (int r = 0; r < n; r++) {
            for (int s = 0; s < n; s++) {
                numbers.addAll(List.of(least(r, s), up(r, s), down(r, s), meet(r, s),
                        arc(r, s, 0), arc(r, s, 1), arc(r, s, 2), arc(r, s, 3)));
            }
        }
        for (int from = 0; from < 8; from++) {
            for (int to = 0; to < 8; to++) {
                if (from != to) {
                    numbers.add(route(from, to));
                }
            }
        }
        for (int r = 0; r < n; r++) {
            numbers.add(loss(r, 100));
        }
        for (int what = 0; what < 6; what++) {
            numbers.add(all(what));
        }
        for (char code : page.toCharArray()) {
            numbers.add((int) code);
        }
        for (int what = 0; what < 7; what++) {
            numbers.add(count(what));
        }
        long h = 1627;
        for (int number : numbers) {
            h = h * 31 + number;
        }
        return h;
    }

    private boolean unknown(int road) {
        return road < 0 || road >= n;
    }

    private boolean isStep(int r, int s) {
        return cost[r][s] != null && cost[r][s] != BARRED;
    }

    private int worth(List<Integer> way) {
        if (way == null) {
            return NONE;
        }
        int worth = 0;
        for (int i = 1; i < way.size(); i++) {
            worth += cost[way.get(i - 1)][way.get(i)] + length[way.get(i)];
        }
        return worth;
    }

    private boolean isBetter(List<Integer> a, List<Integer> b) {
        if (b == null || worth(a) != worth(b)) {
            return b == null || worth(a) < worth(b);
        }
        if (a.size() != b.size()) {
            return a.size() < b.size();
        }
        for (int i = 0; i < a.size(); i++) {
            if (!a.get(i).equals(b.get(i))) {
                return a.get(i) < b.get(i);
            }
        }
        return false;
    }

    /** The ways from a road to each, without one road: made longer by a step until none gets better. */
    private List<Integer>[] waysFrom(int r, int without) {
        @SuppressWarnings({"unchecked", "rawtypes"})
        List<Integer>[] best = new List[n];
        best[r] = List.of(r);
        boolean better = true;
        while (better) {
            better = false;
            for (int x = 0; x < n; x++) {
                for (int y = 0; y < n; y++) {
                    if (best[x] != null && isStep(x, y) && x != without && y != without) {
                        List<Integer> longer = new ArrayList<>(best[x]);
                        longer.add(y);
                        if (isBetter(longer, best[y])) {
                            best[y] = longer;
                            better = true;
                        }
                    }
                }
            }
        }
        return best;
    }

    private List<Integer> theWay(int r, int s) {
        if (theWays == null) {
            @SuppressWarnings({"unchecked", "rawtypes"})
            List<Integer>[][] made = new List[n][];
            for (int x = 0; x < n; x++) {
                made[x] = waysFrom(x, NONE);
            }
            theWays = made;
        }
        return theWays[r][s];
    }

    private int busy(int road) {
        int ways = 0;
        for (int r = 0; r < n; r++) {
            for (int s = 0; s < n; s++) {
                List<Integer> way = theWay(r, s);
                if (r != s && way != null && way.subList(1, way.size() - 1).contains(road)) {
                    ways++;
                }
            }
        }
        return ways;
    }

    private int routeWithout(int from, int to, int without) {
        if (lossless == null) {
            lossless = new int[(n + 1) * 64];
            for (int shut = NONE; shut < n; shut++) {
                fillRoutes((shut + 1) * 64, shut);
            }
        }
        return lossless[(without + 1) * 64 + from * 8 + to];
    }

    private void fillRoutes(int at, int shut) {
        Arrays.fill(lossless, at, at + 64, NONE);
        for (int r = 0; r < n; r++) {
            List<Integer>[] ways = waysFrom(r, shut);
            for (int s = 0; s < n; s++) {
                if (r != shut && s != shut && ways[s] != null) {
                    int i = at + begin[r] * 8 + end[s];
                    int longs = length[r] + worth(ways[s]);
                    lossless[i] = lossless[i] == NONE ? longs : Math.min(lossless[i], longs);
                }
            }
        }
    }

    /** Makes all arcs anew: by the order that the ranks give, or, if there are none, by one that is found. */
    private void makeArcs(int[] givenRanks) {
        theWays = null;
        lossless = null;
        arcs = new Arc[n][n];
        for (int r = 0; r < n; r++) {
            for (int s = 0; s < n; s++) {
                arcs[r][s] = isStep(r, s) ? new Arc(cost[r][s] + length[s], NONE) : null;
            }
        }
        int[] ranks = new int[n];
        Arrays.fill(ranks, NONE);
        for (int rank = 0; rank < n; rank++) {
            int v = givenRanks == null ? next(ranks) : indexOf(givenRanks, rank);
            for (int[] shortcut : needed(v, ranks)) {
                arcs[shortcut[0]][shortcut[1]] = new Arc(shortcut[2], v);
            }
            ranks[v] = rank;
        }
        rankOf = ranks;
    }

    private static int indexOf(int[] row, int value) {
        int i = 0;
        while (row[i] != value) {
            i++;
        }
        return i;
    }

    private int next(int[] ranks) {
        int best = NONE;
        int bestScore = 0;
        for (int v = 0; v < n; v++) {
            if (ranks[v] == NONE) {
                int score = needed(v, ranks).size();
                for (int x = 0; x < n; x++) {
                    score -= ranks[x] == NONE && arcs[v][x] != null ? 1 : 0;
                    score -= ranks[x] == NONE && arcs[x][v] != null ? 1 : 0;
                }
                if (best == NONE || score < bestScore) {
                    best = v;
                    bestScore = score;
                }
            }
        }
        return best;
    }

    private List<int[]> needed(int v, int[] ranks) {
        List<int[]> needed = new ArrayList<>();
        for (int u = 0; u < n; u++) {
            for (int w = 0; w < n; w++) {
                boolean free = u != v && v != w && u != w && ranks[u] == NONE && ranks[w] == NONE;
                if (free && arcs[u][v] != null && arcs[v][w] != null) {
                    int together = arcs[u][v].worth + arcs[v][w].worth;
                    boolean[] seen = new boolean[n];
                    if (!hasRival(u, w, v, together, seen, ranks)) {
                        needed.add(new int[] {u, w, together});
                    }
                }
            }
        }
        return needed;
    }

    /** Whether a row of arcs goes on from x to w with at most what is left (over v: with less). */
    private boolean hasRival(int x, int w, int v, int left, boolean[] seen, int[] ranks) {
        if (left < 0) {
            return false;
        }
        if (x == w) {
            return !seen[v] || left > 0;
        }
        seen[x] = true;
        boolean found = false;
        for (int y = 0; y < n && !found; y++) {
            if (!seen[y] && ranks[y] == NONE && arcs[x][y] != null) {
                found = hasRival(y, w, v, left - arcs[x][y].worth, seen, ranks);
            }
        }
        seen[x] = false;
        return found;
    }

    private int arcsWithMiddle(int road) {
        int found = 0;
        for (Arc[] row : arcs) {
            for (Arc arc : row) {
                found += arc != null && arc.middle == road ? 1 : 0;
            }
        }
        return found;
    }

    private List<Integer> standsFor(int r, int s) {
        int middle = arcs[r][s].middle;
        if (middle == NONE) {
            return List.of(r, s);
        }
        List<Integer> roads = new ArrayList<>(standsFor(r, middle));
        roads.remove(roads.size() - 1);
        roads.addAll(standsFor(middle, s));
        return roads;
    }

    private int climb(int r, int s, int sign) {
        if (r == s) {
            return 0;
        }
        int best = NONE;
        for (int x = 0; x < n; x++) {
            boolean goes = arcs[r][x] != null && (rankOf[x] - rankOf[r]) * sign > 0;
            boolean beyond = (rankOf[s] - rankOf[x]) * sign < 0;
            if (goes && !beyond) {
                int rest = climb(x, s, sign);
                if (rest != NONE && (best == NONE || arcs[r][x].worth + rest < best)) {
                    best = arcs[r][x].worth + rest;
                }
            }
        }
        return best;
    }
}
