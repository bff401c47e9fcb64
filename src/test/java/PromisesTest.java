/** Each promise by itself: ordinary inputs, the edges that the document names, wrong inputs. */
public final class PromisesTest {
    private static final int NONE = -1, UNKNOWN = -101, OUTSIDE = -102, STATE = -103, FULL = -104, BARRED = -5;
    private static final int[] NO_ROADS = {-1, 3, 12, 13, 144, Integer.MIN_VALUE, Integer.MAX_VALUE};
    private static final Check CHECK = new Check("PromisesTest");

    /** Three roads in a ring: the first one gets its rank first, and needs a shortcut from 2 to 1. */
    private static final String RING = "ab1,bc1,ca1";

    public static void main(String[] args) {
        newObject();
        letters();
        blanks();
        faults();
        readings();
        stretches();
        turnsAltered();
        ranksAnew();
        roadsAsked();
        costs();
        orders();
        leasts();
        theWays();
        arcs();
        unpackings();
        ups();
        downs();
        meetings();
        routes();
        losses();
        alls();
        counts();
        digests();
        needs();
        CHECK.end();
    }

    private static void due(String call, long got, long want) {
        CHECK.due(call, got, want);
    }

    /** Promise 1. */
    private static void newObject() {
        BarredTurns x = new BarredTurns();
        for (int what = 0; what <= 6; what++) {
            due("new: count(" + what + ")", x.count(what), 0);
        }
        int[] all = {NONE, 0, 0, 0, 0, 0};
        for (int what = 0; what <= 5; what++) {
            due("new: all(" + what + ")", x.all(what), all[what]);
        }
        due("new: road(0, 0)", x.road(0, 0), UNKNOWN);
        due("new: road(0, 9)", x.road(0, 9), UNKNOWN);
        due("new: order(0)", x.order(0), UNKNOWN);
        due("new: least(0, 0)", x.least(0, 0), UNKNOWN);
        due("new: loss(0, 0)", x.loss(0, 0), UNKNOWN);
        due("new: route(0, 7)", x.route(0, 7), NONE);
        due("new: route(7, 0)", x.route(7, 0), NONE);
        due("new: fault()", x.fault(), 0);
        due("new: blank()", x.blank(), 0);
        due("new: roads()", x.roads(), STATE);
        due("new: rank()", x.rank(), 0);
        due("new: count(6)", x.count(6), 1);
    }

    /** Promise 2. */
    private static void letters() {
        BarredTurns x = new BarredTurns();
        int[] wrong = {31, 127, 0, -1, 255, Integer.MIN_VALUE, Integer.MAX_VALUE};
        for (int code : wrong) {
            due("letter(" + code + ")", x.letter(code), OUTSIDE);
        }
        due("letter(32)", x.letter(32), 1);
        due("letter(126)", x.letter(126), 2);
        for (int i = 3; i <= 60; i++) {
            due("letter " + i, x.letter('a'), i);
        }
        due("letter 61", x.letter('a'), FULL);
        due("letter(31) of a full page", x.letter(31), OUTSIDE);
        due("letters of a full page", x.count(1), 60);
        due("blank() of a full page", x.blank(), 60);
        due("letter(97) once more", x.letter('a'), 1);
    }

    /** Promise 3. */
    private static void blanks() {
        BarredTurns x = new BarredTurns();
        Check.write(x, "ab5,");
        due("blank()", x.blank(), 4);
        due("blank() of an empty page", x.blank(), 0);
        due("count(1)", x.count(1), 0);
        Check.write(x, "gh1");
        due("roads() behind blank()", x.roads(), 1);
        due("road(0, 0)", x.road(0, 0), 6);
        Check.write(x, "x");
        due("blank() leaves ROADS", x.blank(), 1);
        due("count(0)", x.count(0), 1);
    }

    /** Promise 4. */
    private static void faults() {
        String twelve = "ab1,ab1,ab1,ab1,ab1,ab1,ab1,ab1,ab1,ab1,ab1,ab";
        Object[][] texts = {
            {"", 0}, {"a", 1}, {"h", 1}, {"i", 0}, {"A", 0}, {"`", 0}, {" ", 0}, {",", 0}, {"1", 0},
            {"aa", 1}, {"ai", 1}, {"a1", 1}, {"ah", 2}, {"ha", 2}, {"hh1", 1},
            {"ab0", 2}, {"ab,", 2}, {"abc", 2}, {"ab1", 3}, {"ab9", 3}, {"ab10", 4}, {"ab99", 4}, {"ab100", 4},
            {"ab1a", 3}, {"ab1 ", 3}, {"ab10a", 4}, {"ab1,", 4}, {"ab1,,", 4}, {"ab1,b", 5}, {"ab1,bb", 5},
            {"ab1,ba22,ab3", 12}, {"ab1,ba22;ab3", 8},
            {twelve + "1", 47}, {twelve + "1,", 47}, {twelve + "12", 48}, {twelve + "12,", 48}, {twelve + "123", 48},
        };
        for (Object[] row : texts) {
            BarredTurns x = new BarredTurns();
            Check.write(x, (String) row[0]);
            due("fault() of '" + row[0] + "'", x.fault(), (Integer) row[1]);
            due("fault() again", x.fault(), (Integer) row[1]);
            due("letters stay behind fault()", x.count(1), ((String) row[0]).length());
        }
    }

    /** Promise 5. */
    private static void readings() {
        BarredTurns x = new BarredTurns();
        String[] none = {"", "a", "ab", "ab1,", "ab0", "ab01", "aa1", "ab100", "ab1,b", "ab1 ", " ab1", "ab1,,bc1",
            "ab1,ab1,ab1,ab1,ab1,ab1,ab1,ab1,ab1,ab1,ab1,ab1,ab1"};
        for (String text : none) {
            x.blank();
            Check.write(x, text);
            due("roads() of '" + text + "'", x.roads(), STATE);
            due("letters stay behind a refusal", x.count(1), text.length());
            due("no reading is counted", x.count(4), 0);
        }
        x.blank();
        Check.write(x, "ab99,ha10,ab1,ab1,ab1,ab1,ab1,ab1,ab1,ab1,ab1,ab12");
        due("roads() of twelve", x.roads(), 12);
        due("THE PAGE is empty then", x.count(1), 0);
        due("road(0, 2)", x.road(0, 2), 99);
        due("road(1, 0)", x.road(1, 0), 7);
        due("road(1, 2)", x.road(1, 2), 10);
        due("road(11, 2)", x.road(11, 2), 12);
        due("roads() of an empty page", x.roads(), STATE);
        due("a refusal leaves ROADS", x.count(0), 12);
        Check.write(x, "gh1,ab1,bc1");
        due("roads() once more", x.roads(), 3);
        due("others are gone", x.road(3, 0), UNKNOWN);
        due("ORDER is found: order(0)", x.order(0), 1);
        due("order(1)", x.order(1), 0);
        due("order(2)", x.order(2), 2);
        due("count(4)", x.count(4), 2);
        due("no TURN stays of others", x.cost(0, 1), STATE);
    }

    /** Promise 6. */
    private static void stretches() {
        BarredTurns x = Check.read(RING);
        for (int road : NO_ROADS) {
            due("stretch(" + road + ", 0)", x.stretch(road, 0), UNKNOWN);
        }
        int[] outside = {0, 100, -1, Integer.MIN_VALUE, Integer.MAX_VALUE};
        for (int v : outside) {
            due("stretch(0, " + v + ")", x.stretch(0, v), OUTSIDE);
        }
        due("refusals are not counted", x.count(5), 0);
        due("stretch(0, 99)", x.stretch(0, 99), 1);
        due("stretch(0, 1)", x.stretch(0, 1), 99);
        due("stretch(0, 7)", x.stretch(0, 7), 1);
        due("stretch(0, 7) again", x.stretch(0, 7), 7);
        due("count(5)", x.count(5), 4);
        due("road(0, 2)", x.road(0, 2), 7);
        due("arcs are made anew: arc(2, 0, 0)", x.arc(2, 0, 0), 7);
        due("the shortcut, too: arc(2, 1, 0)", x.arc(2, 1, 0), 8);
        due("least(2, 1)", x.least(2, 1), 8);
        due("route(0, 1)", x.route(0, 1), 7);
    }

    /** Promise 7. */
    private static void turnsAltered() {
        BarredTurns x = Check.read("ab5,ba5,bc2");
        for (int road : NO_ROADS) {
            due("turn(" + road + ", 0, 99)", x.turn(road, 0, 99), UNKNOWN);
            due("turn(0, " + road + ", 99)", x.turn(0, road, 99), UNKNOWN);
        }
        due("turn(0, 0, 99)", x.turn(0, 0, 99), STATE);
        due("turn(2, 0, 1)", x.turn(2, 0, 1), STATE);
        due("turn(1, 2, 1)", x.turn(1, 2, 1), STATE);
        int[] outside = {-1, 51, -4, -6, Integer.MIN_VALUE, Integer.MAX_VALUE};
        for (int v : outside) {
            due("turn(0, 1, " + v + ")", x.turn(0, 1, v), OUTSIDE);
        }
        due("refusals are not counted", x.count(5), 0);
        due("turn(0, 1, 50)", x.turn(0, 1, 50), BARRED);
        due("turn(0, 1, 0)", x.turn(0, 1, 0), 50);
        due("turn(0, 1, 3)", x.turn(0, 1, 3), 0);
        due("turn(0, 1, 3) again", x.turn(0, 1, 3), 3);
        due("least(0, 1)", x.least(0, 1), 8);
        due("arc(0, 1, 0)", x.arc(0, 1, 0), 8);
        due("the TURN back stays BARRED", x.cost(1, 0), BARRED);
        due("turn(0, 2, BARRED)", x.turn(0, 2, BARRED), 0);
        due("turn(0, 2, BARRED) again", x.turn(0, 2, BARRED), BARRED);
        due("least(0, 2)", x.least(0, 2), NONE);
        due("arc(0, 2, 0)", x.arc(0, 2, 0), NONE);
        due("count(5)", x.count(5), 6);
    }

    /** Promise 8. */
    private static void ranksAnew() {
        BarredTurns x = Check.read("gh1,ab1,bc1");
        due("rank() of an ORDER just found", x.rank(), 0);
        due("turn(1, 2, BARRED)", x.turn(1, 2, BARRED), 0);
        due("ORDER stays: order(0)", x.order(0), 1);
        due("order(1)", x.order(1), 0);
        due("rank()", x.rank(), 2);
        due("order(0) then", x.order(0), 0);
        due("order(1) then", x.order(1), 1);
        due("order(2) then", x.order(2), 2);
        due("rank() again", x.rank(), 0);
        due("count(6)", x.count(6), 3);
        due("count(5) is only of alterations", x.count(5), 1);
        due("cost(1, 2) stays", x.cost(1, 2), BARRED);
    }

    /** Promise 9. */
    private static void roadsAsked() {
        BarredTurns x = Check.read(RING);
        int[][] want = {{0, 1, 1, 0, 1, 1}, {1, 2, 1, 1, 0, 1}, {2, 0, 1, 2, 0, 1}};
        for (int r = 0; r < 3; r++) {
            for (int what = 0; what < 6; what++) {
                due("road(" + r + ", " + what + ")", x.road(r, what), want[r][what]);
            }
            due("road(" + r + ", -1)", x.road(r, -1), OUTSIDE);
            due("road(" + r + ", 6)", x.road(r, 6), OUTSIDE);
        }
        for (int road : NO_ROADS) {
            due("road(" + road + ", 0)", x.road(road, 0), UNKNOWN);
            due("road(" + road + ", 6)", x.road(road, 6), UNKNOWN);
        }
    }

    /** Promise 10. */
    private static void costs() {
        BarredTurns x = Check.read("ab5,ba5,bc2");
        due("cost(0, 1)", x.cost(0, 1), BARRED);
        due("cost(1, 0)", x.cost(1, 0), BARRED);
        due("cost(0, 2)", x.cost(0, 2), 0);
        due("cost(0, 0)", x.cost(0, 0), STATE);
        due("cost(2, 0)", x.cost(2, 0), STATE);
        x.turn(0, 2, 50);
        due("cost(0, 2) then", x.cost(0, 2), 50);
        for (int road : NO_ROADS) {
            due("cost(" + road + ", 0)", x.cost(road, 0), UNKNOWN);
            due("cost(0, " + road + ")", x.cost(0, road), UNKNOWN);
        }
    }

    /** Promise 11. */
    private static void orders() {
        BarredTurns x = Check.read("gh1,ab1,bc1");
        due("order(0)", x.order(0), 1);
        due("order(1)", x.order(1), 0);
        due("order(2)", x.order(2), 2);
        for (int rank : NO_ROADS) {
            due("order(" + rank + ")", x.order(rank), UNKNOWN);
        }
    }

    /** Promise 12. */
    private static void leasts() {
        BarredTurns x = Check.read("ab3,bc4,ca5");
        int[][] want = {{0, 4, 9}, {8, 0, 5}, {3, 7, 0}};
        for (int r = 0; r < 3; r++) {
            for (int s = 0; s < 3; s++) {
                due("least(" + r + ", " + s + ")", x.least(r, s), want[r][s]);
            }
        }
        x.turn(0, 1, BARRED);
        due("least(0, 1) with a TURN BARRED", x.least(0, 1), NONE);
        due("least(2, 1) with a TURN BARRED", x.least(2, 1), NONE);
        due("least(0, 0) stays 0", x.least(0, 0), 0);
        for (int road : NO_ROADS) {
            due("least(" + road + ", 0)", x.least(road, 0), UNKNOWN);
            due("least(0, " + road + ")", x.least(0, road), UNKNOWN);
        }
    }

    private static void dueWay(BarredTurns x, int r, int s, int... roads) {
        due("way(" + r + ", " + s + ", -1)", x.way(r, s, -1), NONE);
        for (int i = 0; i <= 13; i++) {
            due("way(" + r + ", " + s + ", " + i + ")", x.way(r, s, i), i < roads.length ? roads[i] : NONE);
        }
        due("way(.., least number)", x.way(r, s, Integer.MIN_VALUE), NONE);
        due("way(.., greatest number)", x.way(r, s, Integer.MAX_VALUE), NONE);
    }

    /** Promise 13. */
    private static void theWays() {
        BarredTurns ring = Check.read(RING);
        dueWay(ring, 0, 0, 0);
        dueWay(ring, 0, 2, 0, 1, 2);
        dueWay(ring, 2, 1, 2, 0, 1);
        ring.turn(0, 1, BARRED);
        dueWay(ring, 0, 1);
        // b to e: by c and d (1 each) or at once (3): the same WORTH, so that of fewest ROADS
        BarredTurns few = Check.read("ab1,bc1,cd1,de1,be3,ef1");
        dueWay(few, 0, 5, 0, 4, 5);
        few.stretch(4, 4);
        dueWay(few, 0, 5, 0, 1, 2, 3, 5);
        // of like ones the first by numbers, told where they are unlike first
        BarredTurns first = Check.read("ab1,cd1,bc1,dc9,bd1,bd1,de1,ce1");
        dueWay(first, 0, 6, 0, 4, 6);
        first.turn(0, 4, 1);
        dueWay(first, 0, 6, 0, 5, 6);
        BarredTurns early = Check.read("ef1,de1,ce1,bd1,bc1,ab1");
        dueWay(early, 5, 0, 5, 3, 1, 0);
        for (int road : NO_ROADS) {
            due("way(" + road + ", 0, 0)", ring.way(road, 0, 0), UNKNOWN);
            due("way(0, " + road + ", -1)", ring.way(0, road, -1), UNKNOWN);
        }
    }

    private static void dueArc(BarredTurns x, int r, int s, int... answers) {
        for (int what = 0; what <= 3; what++) {
            due("arc(" + r + ", " + s + ", " + what + ")", x.arc(r, s, what),
                    answers.length == 0 ? NONE : answers[what]);
        }
        due("arc(" + r + ", " + s + ", -1)", x.arc(r, s, -1), OUTSIDE);
        due("arc(" + r + ", " + s + ", 4)", x.arc(r, s, 4), OUTSIDE);
    }

    /** Promise 14. */
    private static void arcs() {
        BarredTurns x = Check.read(RING);
        dueArc(x, 0, 0);
        dueArc(x, 0, 1, 1, NONE, 1, 2);
        dueArc(x, 0, 2);
        dueArc(x, 1, 2, 1, NONE, 1, 2);
        dueArc(x, 1, 0);
        dueArc(x, 2, 0, 1, NONE, 0, 2);
        dueArc(x, 2, 1, 2, 0, 0, 3);
        for (int road : NO_ROADS) {
            due("arc(" + road + ", 0, 4)", x.arc(road, 0, 4), UNKNOWN);
            due("arc(0, " + road + ", 0)", x.arc(0, road, 0), UNKNOWN);
        }
    }

    private static void dueUnpacked(BarredTurns x, int r, int s, int... roads) {
        due("unpacked(" + r + ", " + s + ", -1)", x.unpacked(r, s, -1), NONE);
        for (int i = 0; i <= 13; i++) {
            due("unpacked(" + r + ", " + s + ", " + i + ")", x.unpacked(r, s, i), i < roads.length ? roads[i] : NONE);
        }
        due("unpacked(.., greatest number)", x.unpacked(r, s, Integer.MAX_VALUE), NONE);
    }

    /** Order 0, 2, 3, 1, 4 with an arc from 1 to 4 that is unpacked on both sides of its middle. */
    private static BarredTurns nested() {
        BarredTurns x = Check.read("bc1,ab1,bd1,db1,ce1");
        x.turn(2, 3, 0);
        x.turn(1, 2, BARRED);
        x.turn(1, 0, BARRED);
        x.rank();
        x.turn(1, 2, 0);
        x.turn(1, 0, 50);
        return x;
    }

    /** Promise 15. */
    private static void unpackings() {
        BarredTurns ring = Check.read(RING);
        dueUnpacked(ring, 0, 0);
        dueUnpacked(ring, 0, 1, 0, 1);
        dueUnpacked(ring, 2, 1, 2, 0, 1);
        BarredTurns x = nested();
        int[] order = {0, 2, 3, 1, 4};
        for (int rank = 0; rank < 5; rank++) {
            due("nested: order(" + rank + ")", x.order(rank), order[rank]);
        }
        dueArc(x, 1, 3, 2, 2, 0, 3);
        dueArc(x, 3, 4, 2, 0, 1, 3);
        dueArc(x, 1, 4, 4, 3, 1, 5);
        dueUnpacked(x, 1, 3, 1, 2, 3);
        dueUnpacked(x, 3, 4, 3, 0, 4);
        dueUnpacked(x, 1, 4, 1, 2, 3, 0, 4);
        dueUnpacked(x, 1, 0, 1, 0);
        for (int road : NO_ROADS) {
            due("unpacked(" + road + ", 0, 0)", ring.unpacked(road, 0, 0), UNKNOWN);
            due("unpacked(0, " + road + ", -1)", ring.unpacked(0, road, -1), UNKNOWN);
        }
    }

    /** Promise 16. */
    private static void ups() {
        BarredTurns x = Check.read(RING);
        int[][] want = {{0, 1, 2}, {NONE, 0, 1}, {NONE, NONE, 0}};
        for (int r = 0; r < 3; r++) {
            for (int s = 0; s < 3; s++) {
                due("up(" + r + ", " + s + ")", x.up(r, s), want[r][s]);
            }
        }
        for (int road : NO_ROADS) {
            due("up(" + road + ", 0)", x.up(road, 0), UNKNOWN);
            due("up(0, " + road + ")", x.up(0, road), UNKNOWN);
        }
    }

    /** Promise 17. */
    private static void downs() {
        BarredTurns x = Check.read(RING);
        int[][] want = {{0, NONE, NONE}, {NONE, 0, NONE}, {1, 2, 0}};
        for (int r = 0; r < 3; r++) {
            for (int s = 0; s < 3; s++) {
                due("down(" + r + ", " + s + ")", x.down(r, s), want[r][s]);
            }
        }
        for (int road : NO_ROADS) {
            due("down(" + road + ", 0)", x.down(road, 0), UNKNOWN);
            due("down(0, " + road + ")", x.down(0, road), UNKNOWN);
        }
    }

    /** Promise 18. */
    private static void meetings() {
        BarredTurns x = Check.read(RING);
        int[][] want = {{0, 1, 2}, {2, 1, 2}, {2, 2, 2}};
        for (int r = 0; r < 3; r++) {
            for (int s = 0; s < 3; s++) {
                due("meet(" + r + ", " + s + ")", x.meet(r, s), want[r][s]);
            }
        }
        x.turn(0, 1, BARRED);
        due("meet(0, 1) with a TURN BARRED", x.meet(0, 1), NONE);
        for (int road : NO_ROADS) {
            due("meet(" + road + ", 0)", x.meet(road, 0), UNKNOWN);
            due("meet(0, " + road + ")", x.meet(0, road), UNKNOWN);
        }
    }

    /** Promise 19. */
    private static void routes() {
        BarredTurns x = Check.read("ab3,bc4,ca5,ab9,gh7");
        int[][] want = {{STATE, 3, 7}, {9, STATE, 4}, {5, 8, STATE}};
        for (int from = 0; from < 3; from++) {
            for (int to = 0; to < 3; to++) {
                due("route(" + from + ", " + to + ")", x.route(from, to), want[from][to]);
            }
        }
        due("route(6, 7)", x.route(6, 7), 7);
        due("route(7, 6)", x.route(7, 6), NONE);
        due("route(0, 7)", x.route(0, 7), NONE);
        x.turn(0, 1, BARRED);
        due("route(0, 2) by the other ROAD", x.route(0, 2), 13);
        x.turn(3, 1, BARRED);
        due("route(0, 2) with both TURNS BARRED", x.route(0, 2), NONE);
        int[] wrong = {-1, 8, Integer.MIN_VALUE, Integer.MAX_VALUE};
        for (int place : wrong) {
            due("route(" + place + ", 0)", x.route(place, 0), UNKNOWN);
            due("route(0, " + place + ")", x.route(0, place), UNKNOWN);
            due("route of the same", x.route(place, place), UNKNOWN);
        }
    }

    /** Promise 20. */
    private static void losses() {
        BarredTurns x = Check.read("ab3,bc4,ab9");
        // without 0: a to b 9 and a to c 13, six longer each
        due("loss(0, 10)", x.loss(0, 10), 12);
        // without 1: nothing leads to c
        due("loss(1, 10)", x.loss(1, 10), 20);
        due("loss(1, 0)", x.loss(1, 0), 0);
        due("loss(1, 999)", x.loss(1, 999), 1998);
        due("loss(2, 999)", x.loss(2, 999), 0);
        due("loss changes nothing", x.route(0, 1), 3);
        // without 1, in the middle: b to c, a to c, b to d and a to d are cut off
        due("loss(1, 10) of a ROAD between others", Check.read("ab1,bc1,cd1").loss(1, 10), 40);
        due("loss(0, -1)", x.loss(0, -1), OUTSIDE);
        due("loss(0, 1000)", x.loss(0, 1000), OUTSIDE);
        for (int road : NO_ROADS) {
            due("loss(" + road + ", -1)", x.loss(road, -1), UNKNOWN);
        }
    }

    private static void dueAll(BarredTurns x, int... want) {
        for (int what = 0; what <= 5; what++) {
            due("all(" + what + ")", x.all(what), want[what]);
        }
        due("all(-1)", x.all(-1), OUTSIDE);
        due("all(6)", x.all(6), OUTSIDE);
    }

    /** Promise 21. */
    private static void alls() {
        dueAll(Check.read(RING), 0, 1, 4, 1, 6, 9);
        // the ways 0 1 2, 0 1 2 3, 1 2 3: both middle ones lie in two
        dueAll(Check.read("ab1,bc1,cd1,de1"), 1, 2, 3, 0, 10, 20);
        dueAll(Check.read("ab1,ba1"), 0, 0, 0, 0, 2, 2);
        dueAll(new BarredTurns(), NONE, 0, 0, 0, 0, 0);
    }

    /** Promise 22. */
    private static void counts() {
        BarredTurns x = Check.read("ab1,ba1,bc1");
        Check.write(x, "xyz");
        x.turn(0, 2, BARRED);
        x.turn(0, 1, 7);
        x.stretch(0, 5);
        x.rank();
        x.rank();
        x.roads();
        int[] want = {3, 3, 3, 2, 1, 3, 2};
        for (int what = 0; what <= 6; what++) {
            due("count(" + what + ")", x.count(what), want[what]);
        }
        due("count(-1)", x.count(-1), OUTSIDE);
        due("count(7)", x.count(7), OUTSIDE);
        x.blank();
        Check.write(x, "ab1");
        x.roads();
        int[] then = {1, 0, 0, 0, 2, 3, 2};
        for (int what = 0; what <= 6; what++) {
            due("count(" + what + ") of other ROADS", x.count(what), then[what]);
        }
    }

    /** Promise 23. */
    private static void digests() {
        BarredTurns none = new BarredTurns();
        due("digest() of a new object", none.digest(), Check.digestOf(none, ""));
        BarredTurns x = nested();
        Check.write(x, "ab~ ");
        due("digest()", x.digest(), Check.digestOf(x, "ab~ "));
        due("digest() again", x.digest(), Check.digestOf(x, "ab~ "));
    }

    /** Terms: a SHORTCUT only where nothing as good goes by; ORDER; what comes at once. */
    private static void needs() {
        // from 2 to 3 by 0 or by 1, as good: 0 needs none, and gets its RANK first; then 1 needs one
        BarredTurns x = Check.read("bc2,bc2,ab1,cd1");
        due("order(0)", x.order(0), 0);
        due("order(1)", x.order(1), 1);
        due("road(0, 4)", x.road(0, 4), 0);
        due("road(1, 4)", x.road(1, 4), 1);
        dueArc(x, 2, 3, 3, 1, 1, 3);
        // 1 is longer now: 0 needs the SHORTCUT, 1 does not
        x.stretch(1, 3);
        dueArc(x, 2, 3, 3, 0, 1, 3);
        due("road(0, 4) then", x.road(0, 4), 1);
        due("road(1, 4) then", x.road(1, 4), 0);
        // the ARC from 1 to 0 is dearer than the row 1 2 3 0, so 0 needs none from 1 to 4, and comes first
        BarredTurns dear = nested();
        due("rank() with a dear TURN", dear.rank(), 3);
        for (int rank = 0; rank < 5; rank++) {
            due("order(" + rank + ") with a dear TURN", dear.order(rank), rank);
        }
    }
}
