import java.util.Arrays;

/** Routes where turns are barred: the promises are in the document DOC.md. */
public final class BarredTurns {
    public static final int NONE = -1, UNKNOWN = -101, OUTSIDE = -102, STATE = -103, FULL = -104, BARRED = -5;

    private static final int MOST_ROADS = 12;
    private static final int MOST_LETTERS = 60;
    private static final int PLACES = 8;
    private static final int MOST_LENGTH = 99;
    private static final int MOST_COST = 50;
    private static final int MOST_LOSS = 999;
    private static final int DIGEST_LOSS = 100;

    /** Stands for "none" where the least is sought: two of it together do not wrap. */
    private static final int FAR = 1 << 28;
    /** Worth times this, and the number of steps: so the least is also that of fewest roads. */
    private static final int STEP_SCALE = 64;

    private final Page page;
    private final Net net;
    private final Ladder ladder;
    private final Climbs climbs;
    private final Ways ways;
    private final Routes routes;
    private int readings;
    private int alterations;
    private int rankings;

    public BarredTurns() {
        page = new Page();
        net = new Net();
        ladder = new Ladder();
        climbs = new Climbs();
        ways = new Ways();
        routes = new Routes();
    }

    // ---- texts

    public int letter(int code) {
        if (code < 32 || code > 126) {
            return OUTSIDE;
        }
        if (page.letters >= MOST_LETTERS) {
            return FULL;
        }
        page.put(code);
        return page.letters;
    }

    public int blank() {
        int had = page.letters;
        page.letters = 0;
        return had;
    }

    public int fault() {
        return page.scan();
    }

    public int roads() {
        if (!page.isWhole()) {
            return STATE;
        }
        net.take(page);
        page.letters = 0;
        readings++;
        ladder.findOrder(net);
        measureAll();
        return net.size;
    }

    // ---- what is altered

    public int stretch(int road, int v) {
        if (!net.has(road)) {
            return UNKNOWN;
        }
        if (v < 1 || v > MOST_LENGTH) {
            return OUTSIDE;
        }
        int before = net.lengths[road];
        net.lengths[road] = v;
        makeAnew();
        return before;
    }

    public int turn(int r, int s, int v) {
        if (!net.hasBoth(r, s)) {
            return UNKNOWN;
        }
        if (!net.hasTurn(r, s)) {
            return STATE;
        }
        if (v != BARRED && (v < 0 || v > MOST_COST)) {
            return OUTSIDE;
        }
        int before = net.costs.get(r, s);
        net.costs.set(r, s, v);
        makeAnew();
        return before;
    }

    public int rank() {
        rankings++;
        ladder.noteRanks();
        ladder.findOrder(net);
        measureAll();
        return ladder.countMoved();
    }

    private void makeAnew() {
        alterations++;
        ladder.keepOrder(net);
        measureAll();
    }

    private void measureAll() {
        climbs.measure(ladder);
        ways.measure(net);
        routes.measure(net, ways.keys);
    }

    // ---- roads

    public int road(int road, int what) {
        if (!net.has(road)) {
            return UNKNOWN;
        }
        switch (what) {
            case 0:
                return net.begins[road];
            case 1:
                return net.ends[road];
            case 2:
                return net.lengths[road];
            case 3:
                return ladder.ranks[road];
            case 4:
                return ladder.countArcsOver(road);
            case 5:
                return ways.busy[road];
            default:
                return OUTSIDE;
        }
    }

    public int cost(int r, int s) {
        if (!net.hasBoth(r, s)) {
            return UNKNOWN;
        }
        return net.hasTurn(r, s) ? net.costs.get(r, s) : STATE;
    }

    public int order(int rank) {
        return net.has(rank) ? ladder.roadsByRank[rank] : UNKNOWN;
    }

    // ---- ways

    public int least(int r, int s) {
        return net.hasBoth(r, s) ? ways.worth(r, s) : UNKNOWN;
    }

    public int way(int r, int s, int place) {
        return net.hasBoth(r, s) ? ways.roadOn(r, s, place) : UNKNOWN;
    }

    public int arc(int r, int s, int what) {
        if (!net.hasBoth(r, s)) {
            return UNKNOWN;
        }
        if (what < 0 || what > 3) {
            return OUTSIDE;
        }
        if (!ladder.hasArc(r, s)) {
            return NONE;
        }
        switch (what) {
            case 0:
                return ladder.worths.get(r, s);
            case 1:
                return ladder.middles.get(r, s);
            case 2:
                return ladder.leadsUp(r, s) ? 1 : 0;
            default:
                return ladder.unpack(r, s);
        }
    }

    public int unpacked(int r, int s, int place) {
        if (!net.hasBoth(r, s)) {
            return UNKNOWN;
        }
        if (!ladder.hasArc(r, s)) {
            return NONE;
        }
        int size = ladder.unpack(r, s);
        return place >= 0 && place < size ? ladder.row[place] : NONE;
    }

    public int up(int r, int s) {
        return net.hasBoth(r, s) ? orNone(climbs.ups.get(r, s)) : UNKNOWN;
    }

    public int down(int r, int s) {
        return net.hasBoth(r, s) ? orNone(climbs.downs.get(r, s)) : UNKNOWN;
    }

    public int meet(int r, int s) {
        return net.hasBoth(r, s) ? climbs.meeting(r, s, net.size) : UNKNOWN;
    }

    // ---- places

    public int route(int from, int to) {
        if (!isPlace(from) || !isPlace(to)) {
            return UNKNOWN;
        }
        return from == to ? STATE : orNone(routes.open[from * PLACES + to]);
    }

    public int loss(int road, int n) {
        if (!net.has(road)) {
            return UNKNOWN;
        }
        if (n < 0 || n > MOST_LOSS) {
            return OUTSIDE;
        }
        return routes.lossWithout(net, road, n);
    }

    public int all(int what) {
        switch (what) {
            case 0:
                return ways.busiest(net.size);
            case 1:
                return ways.mostBusy(net.size);
            case 2:
                return ladder.countArcs();
            case 3:
                return ladder.countShortcuts();
            case 4:
                return routes.countOpen();
            case 5:
                return routes.sumOpen();
            default:
                return OUTSIDE;
        }
    }

    public int count(int what) {
        switch (what) {
            case 0:
                return net.size;
            case 1:
                return page.letters;
            case 2:
                return net.countTurns();
            case 3:
                return net.countBarred();
            case 4:
                return readings;
            case 5:
                return alterations;
            case 6:
                return rankings;
            default:
                return OUTSIDE;
        }
    }

    public long digest() {
        long h = 1627;
        h = digestOfRoads(h);
        h = digestOfPairs(h);
        h = digestOfPlaces(h);
        return digestOfCounts(h);
    }

    private long digestOfRoads(long h) {
        for (int r = 0; r < net.size; r++) {
            for (int what = 0; what <= 5; what++) {
                h = mix(h, road(r, what));
            }
        }
        return h;
    }

    private long digestOfPairs(long h) {
        for (int r = 0; r < net.size; r++) {
            for (int s = 0; s < net.size; s++) {
                h = mix(h, least(r, s));
                h = mix(h, up(r, s));
                h = mix(h, down(r, s));
                h = mix(h, meet(r, s));
                for (int what = 0; what <= 3; what++) {
                    h = mix(h, arc(r, s, what));
                }
            }
        }
        return h;
    }

    private long digestOfPlaces(long h) {
        for (int from = 0; from < PLACES; from++) {
            for (int to = 0; to < PLACES; to++) {
                if (from != to) {
                    h = mix(h, route(from, to));
                }
            }
        }
        for (int r = 0; r < net.size; r++) {
            h = mix(h, loss(r, DIGEST_LOSS));
        }
        return h;
    }

    private long digestOfCounts(long h) {
        for (int what = 0; what <= 5; what++) {
            h = mix(h, all(what));
        }
        for (int i = 0; i < page.letters; i++) {
            h = mix(h, page.codes[i]);
        }
        for (int what = 0; what <= 6; what++) {
            h = mix(h, count(what));
        }
        return h;
    }

    private static long mix(long h, long number) {
        return 31 * h + number;
    }

    private static boolean isPlace(int place) {
        return place >= 0 && place < PLACES;
    }

    private static int orNone(int worth) {
        return worth >= FAR ? NONE : worth;
    }

    /** A number for each road with each, the first one first. */
    private static final class Grid {
        private final int[] cells = new int[MOST_ROADS * MOST_ROADS];

        int get(int r, int s) {
            return cells[r * MOST_ROADS + s];
        }

        void set(int r, int s, int value) {
            cells[r * MOST_ROADS + s] = value;
        }

        /** Each number becomes the least that a row of cells, one behind the other, has together. */
        void shorten(int size) {
            for (int middle = 0; middle < size; middle++) {
                for (int r = 0; r < size; r++) {
                    int toMiddle = get(r, middle);
                    if (toMiddle < FAR) {
                        shortenRow(r, middle, toMiddle, size);
                    }
                }
            }
        }

        private void shortenRow(int r, int middle, int toMiddle, int size) {
            int row = r * MOST_ROADS;
            int middleRow = middle * MOST_ROADS;
            for (int s = 0; s < size; s++) {
                int together = toMiddle + cells[middleRow + s];
                if (together < cells[row + s]) {
                    cells[row + s] = together;
                }
            }
        }
    }

    /** The letters, and what they tell as roads when they are looked through. */
    private static final class Page {
        private static final int BEGIN = 0;
        private static final int END = 1;
        private static final int FIRST_FIGURE = 2;
        private static final int SECOND_FIGURE = 3;
        private static final int COMMA = 4;

        final int[] codes = new int[MOST_LETTERS];
        int letters;
        final int[] begins = new int[MOST_ROADS];
        final int[] ends = new int[MOST_ROADS];
        final int[] lengths = new int[MOST_ROADS];
        /** The number of the road that is being read. */
        private int current;
        /** What may come next of it. */
        private int due;

        void put(int code) {
            if (letters < MOST_LETTERS) {
                codes[letters] = code;
                letters++;
            }
        }

        /** The place of the first letter that no roads have there; the number of letters, if there is none. */
        int scan() {
            current = 0;
            due = BEGIN;
            for (int i = 0; i < letters; i++) {
                if (!takes(codes[i])) {
                    return i;
                }
            }
            return letters;
        }

        boolean isWhole() {
            return scan() == letters && (due == SECOND_FIGURE || due == COMMA);
        }

        int howManyRoads() {
            return current + 1;
        }

        private boolean takes(int code) {
            switch (due) {
                case BEGIN:
                    return takesBegin(code);
                case END:
                    return takesEnd(code);
                case FIRST_FIGURE:
                    return takesFirstFigure(code);
                case SECOND_FIGURE:
                    return takesSecondFigure(code) || takesComma(code);
                default:
                    return takesComma(code);
            }
        }

        private boolean takesBegin(int code) {
            int place = code - 'a';
            if (!isPlace(place)) {
                return false;
            }
            begins[current] = place;
            due = END;
            return true;
        }

        private boolean takesEnd(int code) {
            int place = code - 'a';
            if (!isPlace(place) || place == begins[current]) {
                return false;
            }
            ends[current] = place;
            due = FIRST_FIGURE;
            return true;
        }

        private boolean takesFirstFigure(int code) {
            if (code < '1' || code > '9') {
                return false;
            }
            lengths[current] = code - '0';
            due = SECOND_FIGURE;
            return true;
        }

        private boolean takesSecondFigure(int code) {
            if (code < '0' || code > '9') {
                return false;
            }
            lengths[current] = lengths[current] * 10 + code - '0';
            due = COMMA;
            return true;
        }

        private boolean takesComma(int code) {
            if (code != ',' || current + 1 >= MOST_ROADS) {
                return false;
            }
            current++;
            due = BEGIN;
            return true;
        }
    }

    /** The roads and their turns. */
    private static final class Net {
        private static final int NO_TURN = -6;

        int size;
        final int[] begins = new int[MOST_ROADS];
        final int[] ends = new int[MOST_ROADS];
        final int[] lengths = new int[MOST_ROADS];
        /** A cost, BARRED or NO_TURN. */
        final Grid costs = new Grid();

        void take(Page page) {
            size = page.howManyRoads();
            System.arraycopy(page.begins, 0, begins, 0, MOST_ROADS);
            System.arraycopy(page.ends, 0, ends, 0, MOST_ROADS);
            System.arraycopy(page.lengths, 0, lengths, 0, MOST_ROADS);
            for (int r = 0; r < size; r++) {
                for (int s = 0; s < size; s++) {
                    costs.set(r, s, firstCost(r, s));
                }
            }
        }

        private int firstCost(int r, int s) {
            if (ends[r] != begins[s]) {
                return NO_TURN;
            }
            return ends[s] == begins[r] ? BARRED : 0;
        }

        boolean has(int road) {
            return road >= 0 && road < size;
        }

        boolean hasBoth(int r, int s) {
            return has(r) && has(s);
        }

        boolean hasTurn(int r, int s) {
            return costs.get(r, s) != NO_TURN;
        }

        boolean hasStep(int r, int s) {
            return costs.get(r, s) >= 0;
        }

        /** Looks at the cost itself, not by hasStep: so calls stay eight deep at most. */
        int stepWorth(int r, int s) {
            int cost = costs.get(r, s);
            return cost >= 0 ? cost + lengths[s] : FAR;
        }

        int stepKey(int r, int s) {
            return hasStep(r, s) ? stepWorth(r, s) * STEP_SCALE + 1 : FAR;
        }

        /** Fills a grid with the least keys of ways that keep off one road (NONE: off no road). */
        void fillLeastKeys(Grid keys, int shut) {
            for (int r = 0; r < size; r++) {
                for (int s = 0; s < size; s++) {
                    boolean open = r != shut && s != shut;
                    keys.set(r, s, open ? stepKey(r, s) : FAR);
                }
                keys.set(r, r, 0);
            }
            keys.shorten(size);
        }

        int countTurns() {
            int turns = 0;
            for (int r = 0; r < size; r++) {
                for (int s = 0; s < size; s++) {
                    turns += hasTurn(r, s) ? 1 : 0;
                }
            }
            return turns;
        }

        int countBarred() {
            int barred = 0;
            for (int r = 0; r < size; r++) {
                for (int s = 0; s < size; s++) {
                    barred += costs.get(r, s) == BARRED ? 1 : 0;
                }
            }
            return barred;
        }
    }

    /** The arcs, and the ranks by which they were made. */
    private static final class Ladder {
        int size;
        /** Worths of arcs; FAR: there is none. */
        final Grid worths = new Grid();
        final Grid middles = new Grid();
        final int[] ranks = new int[MOST_ROADS];
        final int[] roadsByRank = new int[MOST_ROADS];
        /** What the arc that was unpacked last stands for: a shortcut is a least way, so no road is in it twice. */
        final int[] row = new int[MOST_ROADS];
        private final int[] ranksBefore = new int[MOST_ROADS];
        /** Least worths over all roads without rank, and over all of these but one. */
        private final Grid apart = new Grid();
        private final Grid apartWithout = new Grid();
        private final Grid needed = new Grid();

        void findOrder(Net net) {
            startAnew(net);
            for (int rank = 0; rank < size; rank++) {
                measureFree(apart, NONE);
                giveRank(pickNext(), rank);
            }
        }

        void keepOrder(Net net) {
            startAnew(net);
            for (int rank = 0; rank < size; rank++) {
                measureFree(apart, NONE);
                giveRank(roadsByRank[rank], rank);
            }
        }

        void noteRanks() {
            System.arraycopy(ranks, 0, ranksBefore, 0, MOST_ROADS);
        }

        /** How many roads have another rank than when the ranks were noted. */
        int countMoved() {
            int moved = 0;
            for (int road = 0; road < size; road++) {
                moved += ranks[road] != ranksBefore[road] ? 1 : 0;
            }
            return moved;
        }

        private void startAnew(Net net) {
            size = net.size;
            for (int r = 0; r < size; r++) {
                ranks[r] = NONE;
                for (int s = 0; s < size; s++) {
                    worths.set(r, s, net.stepWorth(r, s));
                    middles.set(r, s, NONE);
                }
            }
        }

        private boolean isFree(int road) {
            return ranks[road] == NONE;
        }

        private void measureFree(Grid grid, int without) {
            for (int r = 0; r < size; r++) {
                for (int s = 0; s < size; s++) {
                    boolean open = isFree(r) && isFree(s) && r != without && s != without;
                    grid.set(r, s, open ? worths.get(r, s) : FAR);
                }
            }
            grid.shorten(size);
        }

        /** There is always a road without rank when this is asked. */
        private int pickNext() {
            int best = 0;
            int bestScore = FAR;
            for (int road = 0; road < size; road++) {
                if (isFree(road)) {
                    int score = markNeeded(road) - countFreeArcs(road);
                    if (score < bestScore) {
                        best = road;
                        bestScore = score;
                    }
                }
            }
            return best;
        }

        private int countFreeArcs(int road) {
            int arcs = 0;
            for (int other = 0; other < size; other++) {
                if (isFree(other)) {
                    arcs += hasArc(road, other) ? 1 : 0;
                    arcs += hasArc(other, road) ? 1 : 0;
                }
            }
            return arcs;
        }

        /** Marks the shortcuts that a road needs: how many. */
        private int markNeeded(int over) {
            measureFree(apartWithout, over);
            int howMany = 0;
            for (int from = 0; from < size; from++) {
                for (int to = 0; to < size; to++) {
                    int mark = isNeeded(from, over, to) ? 1 : 0;
                    needed.set(from, to, mark);
                    howMany += mark;
                }
            }
            return howMany;
        }

        private boolean isNeeded(int from, int over, int to) {
            if (from == over || over == to || from == to) {
                return false;
            }
            if (!isFree(from) || !isFree(to) || !hasArc(from, over) || !hasArc(over, to)) {
                return false;
            }
            int together = worths.get(from, over) + worths.get(over, to);
            return apart.get(from, over) + apart.get(over, to) >= together
                    && apartWithout.get(from, to) > together;
        }

        private void giveRank(int road, int rank) {
            markNeeded(road);
            for (int from = 0; from < size; from++) {
                for (int to = 0; to < size; to++) {
                    if (needed.get(from, to) == 1) {
                        worths.set(from, to, worths.get(from, road) + worths.get(road, to));
                        middles.set(from, to, road);
                    }
                }
            }
            ranks[road] = rank;
            roadsByRank[rank] = road;
        }

        boolean hasArc(int r, int s) {
            return worths.get(r, s) < FAR;
        }

        boolean leadsUp(int r, int s) {
            return ranks[s] > ranks[r];
        }

        /** Puts what an arc stands for into the row: how many roads. */
        int unpack(int r, int s) {
            row[0] = r;
            row[1] = s;
            int filled = 2;
            int done = 0;
            for (int i = 0; i < 2 * MOST_ROADS && done + 1 < filled; i++) {
                int middle = middles.get(row[done], row[done + 1]);
                if (middle == NONE || filled >= MOST_ROADS) {
                    done++;
                } else {
                    putIntoRow(middle, done + 1, filled);
                    filled++;
                }
            }
            return filled;
        }

        private void putIntoRow(int road, int place, int filled) {
            for (int i = filled; i > place; i--) {
                row[i] = row[i - 1];
            }
            row[place] = road;
        }

        int countArcs() {
            int arcs = 0;
            for (int r = 0; r < size; r++) {
                for (int s = 0; s < size; s++) {
                    arcs += hasArc(r, s) ? 1 : 0;
                }
            }
            return arcs;
        }

        int countShortcuts() {
            int shortcuts = 0;
            for (int road = 0; road < size; road++) {
                shortcuts += countArcsOver(road);
            }
            return shortcuts;
        }

        int countArcsOver(int middle) {
            int arcs = 0;
            for (int r = 0; r < size; r++) {
                for (int s = 0; s < size; s++) {
                    arcs += middles.get(r, s) == middle ? 1 : 0;
                }
            }
            return arcs;
        }
    }

    /** The least worths of arcs that lead only upward, and only downward. */
    private static final class Climbs {
        final Grid ups = new Grid();
        final Grid downs = new Grid();

        void measure(Ladder ladder) {
            for (int r = 0; r < ladder.size; r++) {
                for (int s = 0; s < ladder.size; s++) {
                    int worth = ladder.worths.get(r, s);
                    boolean upward = ladder.leadsUp(r, s);
                    ups.set(r, s, upward ? worth : FAR);
                    downs.set(r, s, upward ? FAR : worth);
                }
                ups.set(r, r, 0);
                downs.set(r, r, 0);
            }
            ups.shorten(ladder.size);
            downs.shorten(ladder.size);
        }

        int meeting(int r, int s, int size) {
            int best = NONE;
            int bestWorth = FAR;
            for (int road = 0; road < size; road++) {
                int worth = ups.get(r, road) + downs.get(road, s);
                if (worth < bestWorth) {
                    best = road;
                    bestWorth = worth;
                }
            }
            return best;
        }
    }

    /** The way from each road to each. */
    private static final class Ways {
        final Grid keys = new Grid();
        /** The road behind the first one; NONE: there is none. */
        private final Grid nexts = new Grid();
        final int[] busy = new int[MOST_ROADS];

        void measure(Net net) {
            net.fillLeastKeys(keys, NONE);
            for (int r = 0; r < net.size; r++) {
                for (int s = 0; s < net.size; s++) {
                    nexts.set(r, s, r == s ? NONE : firstNext(net, r, s));
                }
            }
            countBusy(net.size);
        }

        private int firstNext(Net net, int r, int s) {
            int key = keys.get(r, s);
            if (key >= FAR) {
                return NONE;
            }
            for (int next = 0; next < net.size; next++) {
                if (net.hasStep(r, next) && net.stepKey(r, next) + keys.get(next, s) == key) {
                    return next;
                }
            }
            return NONE;
        }

        private void countBusy(int size) {
            Arrays.fill(busy, 0);
            for (int r = 0; r < size; r++) {
                for (int s = 0; s < size; s++) {
                    countBusyBetween(r, s);
                }
            }
        }

        private void countBusyBetween(int r, int s) {
            int here = nexts.get(r, s);
            for (int i = 0; i < MOST_ROADS && here != NONE && here != s; i++) {
                busy[here]++;
                here = nexts.get(here, s);
            }
        }

        int worth(int r, int s) {
            int key = keys.get(r, s);
            return key >= FAR ? NONE : key / STEP_SCALE;
        }

        int roadOn(int r, int s, int place) {
            int key = keys.get(r, s);
            if (key >= FAR || place < 0 || place > key % STEP_SCALE) {
                return NONE;
            }
            int here = r;
            for (int i = 0; i < place && here != NONE; i++) {
                here = nexts.get(here, s);
            }
            return here;
        }

        int busiest(int size) {
            int best = NONE;
            for (int road = 0; road < size; road++) {
                if (best == NONE || busy[road] > busy[best]) {
                    best = road;
                }
            }
            return best;
        }

        int mostBusy(int size) {
            int road = busiest(size);
            return road == NONE ? 0 : busy[road];
        }
    }

    /** The routes from place to place. */
    private static final class Routes {
        /** By the place where it begins times PLACES, and where it ends; FAR: there is none. */
        final int[] open = new int[PLACES * PLACES];
        private final int[] shut = new int[PLACES * PLACES];
        private final Grid shutKeys = new Grid();

        Routes() {
            Arrays.fill(open, FAR);
        }

        void measure(Net net, Grid keys) {
            fillWith(open, net, keys, NONE);
        }

        private static void fillWith(int[] routes, Net net, Grid keys, int without) {
            Arrays.fill(routes, FAR);
            for (int r = 0; r < net.size; r++) {
                for (int s = 0; s < net.size; s++) {
                    int key = keys.get(r, s);
                    int pair = net.begins[r] * PLACES + net.ends[s];
                    if (key < FAR && r != without && s != without && net.begins[r] != net.ends[s]) {
                        routes[pair] = Math.min(routes[pair], net.lengths[r] + key / STEP_SCALE);
                    }
                }
            }
        }

        int lossWithout(Net net, int road, int n) {
            net.fillLeastKeys(shutKeys, road);
            fillWith(shut, net, shutKeys, road);
            int together = 0;
            for (int pair = 0; pair < PLACES * PLACES; pair++) {
                if (open[pair] < FAR) {
                    together += shut[pair] < FAR ? shut[pair] - open[pair] : n;
                }
            }
            return together;
        }

        int countOpen() {
            int pairs = 0;
            for (int pair = 0; pair < PLACES * PLACES; pair++) {
                pairs += open[pair] < FAR ? 1 : 0;
            }
            return pairs;
        }

        int sumOpen() {
            int together = 0;
            for (int pair = 0; pair < PLACES * PLACES; pair++) {
                together += open[pair] < FAR ? open[pair] : 0;
            }
            return together;
        }
    }
}
