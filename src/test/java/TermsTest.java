/** The document's terms: each sentence that names a bound, an empty or a full case, or what of like ones is taken. */
public final class TermsTest {
    private static final int NONE = -1, UNKNOWN = -101, STATE = -103, BARRED = -5;
    private static final Check CHECK = new Check("TermsTest");
    private static final String RING = "ab1,bc1,ca1";
    /** In one row behind each other: 10, then 0 to 9, then 11. */
    private static final String TWELVE = "bc99,cd99,de99,ef99,fg99,gh99,ha99,ac99,ce99,eg99,ab99,ga99";

    public static void main(String[] args) {
        placesAreAToH();
        oneToTwelve();
        commasBetween();
        anotherPlaceAtTheEnd();
        lengthsFrom1To99();
        turnsAtFirst();
        worthsOfSteps();
        waysToItself();
        leastsThatAreNone();
        fewestRoads();
        firstByNumbers();
        longestWay();
        arcsAtFirst();
        arcsOneAtMost();
        rowsNotOverTheMiddle();
        rowsOverTheMiddle();
        rowsOverTheMiddleThatStay();
        endsOfTheFirstNumber();
        roadsUnlike();
        roadsWithRank();
        orderOfLikeOnes();
        orderAsItIs();
        longestUnpacked();
        longestUnpackedBehindTheMiddle();
        upsAndDowns();
        meetsOfLikeOnes();
        routesThatAreNone();
        lossesOfBoth();
        lossesAtMost();
        busyWithoutEnds();
        fiveHundredAndTwelveCalls();
        CHECK.end();
    }

    private static void of(String sentence) {
        CHECK.of(sentence);
    }

    private static void due(String call, long got, long want) {
        CHECK.due(call, got, want);
    }

    /** What fault() and roads() say of a text. */
    private static void dueText(String text, int fault, int roads) {
        BarredTurns x = new BarredTurns();
        Check.write(x, text);
        due("fault() of '" + text + "'", x.fault(), fault);
        due("roads() of '" + text + "'", x.roads(), roads);
    }

    private static void dueWay(BarredTurns x, int r, int s, int... roads) {
        for (int i = 0; i <= roads.length; i++) {
            due("way(" + r + ", " + s + ", " + i + ")", x.way(r, s, i), i < roads.length ? roads[i] : NONE);
        }
    }

    private static void dueUnpacked(BarredTurns x, int r, int s, int... roads) {
        for (int i = 0; i <= roads.length; i++) {
            due("unpacked(" + r + ", " + s + ", " + i + ")", x.unpacked(r, s, i), i < roads.length ? roads[i] : NONE);
        }
        due("arc(" + r + ", " + s + ", 3)", x.arc(r, s, 3), roads.length == 0 ? NONE : roads.length);
    }

    private static void dueArc(BarredTurns x, int r, int s, int worth, int middle) {
        due("arc(" + r + ", " + s + ", 0)", x.arc(r, s, 0), worth);
        due("arc(" + r + ", " + s + ", 1)", x.arc(r, s, 1), middle);
    }

    private static void dueOrder(BarredTurns x, int... roads) {
        for (int rank = 0; rank < roads.length; rank++) {
            due("order(" + rank + ")", x.order(rank), roads[rank]);
            due("road(" + roads[rank] + ", 3)", x.road(roads[rank], 3), rank);
        }
        due("order(" + roads.length + ")", x.order(roads.length), UNKNOWN);
    }

    private static void placesAreAToH() {
        of("PLACES are a to h");
        BarredTurns x = Check.read("ah1,ha1");
        due("a: road(0, 0)", x.road(0, 0), 0);
        due("h: road(0, 1)", x.road(0, 1), 7);
        due("h: road(1, 0)", x.road(1, 0), 7);
        due("a: road(1, 1)", x.road(1, 1), 0);
        for (char none : new char[] {'a' - 1, 'h' + 1, 'A', 'H', '0', '~', ' '}) {
            dueText(none + "a1", 0, STATE);
            dueText("a" + none + "1", 1, STATE);
        }
    }

    private static void oneToTwelve() {
        of("ROADS, a text: one to twelve, numbered from 0");
        dueText("", 0, STATE);
        StringBuilder text = new StringBuilder("ab1");
        for (int roads = 1; roads <= 12; roads++) {
            dueText(text.toString(), text.length(), roads);
            text.append(",ab").append(1 + roads % 9);
        }
        dueText(text.toString(), 47, STATE);
        BarredTurns x = Check.read(TWELVE);
        due("the first: road(0, 0)", x.road(0, 0), 1);
        due("the last: road(11, 0)", x.road(11, 0), 6);
        due("none behind the last: road(12, 0)", x.road(12, 0), UNKNOWN);
        due("none ahead of the first: road(-1, 0)", x.road(-1, 0), UNKNOWN);
    }

    private static void commasBetween() {
        of("ROADS: with ',' between");
        dueText("ab1,ab1", 7, 2);
        dueText(",ab1", 0, STATE);
        dueText("ab1,", 4, STATE);
        dueText("ab1,,ab1", 4, STATE);
        dueText("ab1ab1", 3, STATE);
        dueText("ab1;ab1", 3, STATE);
        dueText("ab1 ,ab1", 3, STATE);
        dueText("ab1, ab1", 4, STATE);
    }

    private static void anotherPlaceAtTheEnd() {
        of("the PLACE where it begins, another one where it ends");
        for (char begin = 'a'; begin <= 'h'; begin++) {
            for (char end = 'a'; end <= 'h'; end++) {
                dueText("" + begin + end + 1, begin == end ? 1 : 3, begin == end ? STATE : 1);
            }
        }
    }

    private static void lengthsFrom1To99() {
        of("its LENGTH (1 to 99, in figures without a 0 ahead)");
        for (int length = 1; length <= 99; length++) {
            due("road(0, 2) of " + length, Check.read("ab" + length).road(0, 2), length);
        }
        dueText("ab", 2, STATE);
        dueText("ab0", 2, STATE);
        dueText("ab00", 2, STATE);
        dueText("ab01", 2, STATE);
        dueText("ab-1", 2, STATE);
        dueText("ab100", 4, STATE);
        dueText("ab1,ab010", 6, STATE);
    }

    private static void turnsAtFirst() {
        of("At first all TURNS are of COST 0, but those to a ROAD that ends where the first one begins are BARRED");
        int[][] want = {
            {STATE, 0, BARRED, STATE, 0},
            {STATE, STATE, STATE, 0, STATE},
            {BARRED, STATE, STATE, STATE, STATE},
            {0, STATE, STATE, STATE, STATE},
            {STATE, STATE, STATE, 0, STATE},
        };
        BarredTurns x = Check.read("ab1,bc1,ba1,ca1,bc2");
        dueCosts(x, want);
        due("count(2)", x.count(2), 7);
        due("count(3)", x.count(3), 2);
        x.turn(0, 1, 9);
        x.turn(0, 2, 9);
        x.turn(3, 0, BARRED);
        Check.write(x, "ab1,bc1,ba1,ca1,bc2");
        x.roads();
        dueCosts(x, want);
    }

    private static void dueCosts(BarredTurns x, int[][] want) {
        for (int r = 0; r < want.length; r++) {
            for (int s = 0; s < want.length; s++) {
                due("cost(" + r + ", " + s + ")", x.cost(r, s), want[r][s]);
            }
        }
    }

    private static void worthsOfSteps() {
        of("its WORTH: COST and the LENGTH of the ROAD to which it leads, together");
        BarredTurns x = Check.read("ab9,bc1");
        due("the least: least(0, 1)", x.least(0, 1), 1);
        dueArc(x, 0, 1, 1, NONE);
        x.turn(0, 1, 50);
        x.stretch(1, 99);
        due("the most: least(0, 1)", x.least(0, 1), 149);
        dueArc(x, 0, 1, 149, NONE);
        x.stretch(0, 99);
        due("the LENGTH of the first one is no matter", x.least(0, 1), 149);
    }

    private static void waysToItself() {
        of("A WAY: none from a ROAD to itself: WORTH 0");
        for (String text : new String[] {"ab7", RING}) {
            BarredTurns x = Check.read(text);
            for (int r = 0; r < x.count(0); r++) {
                due("least(" + r + ", " + r + ")", x.least(r, r), 0);
                dueWay(x, r, r, r);
            }
        }
    }

    private static void leastsThatAreNone() {
        of("LEAST of two ROADS: the least WORTH of any WAY from the one to the other one; none");
        BarredTurns x = Check.read("ab1,bc2,cd4");
        due("least(0, 2)", x.least(0, 2), 6);
        due("least(2, 0)", x.least(2, 0), NONE);
        due("way(2, 0, 0)", x.way(2, 0, 0), NONE);
        x.turn(1, 2, BARRED);
        due("least(0, 2), BARRED on the way", x.least(0, 2), NONE);
        due("way(0, 2, 0), BARRED on the way", x.way(0, 2, 0), NONE);
        due("least(0, 1) stays", x.least(0, 1), 2);
    }

    private static void fewestRoads() {
        of("THE WAY: of those of that WORTH those of fewest ROADS");
        // from b to e by 1, 2, 3 of 1 each, or by 4 alone
        BarredTurns x = Check.read("ab1,bc1,cd1,de1,be2,ef1");
        dueWay(x, 0, 5, 0, 4, 5);
        x.stretch(4, 3);
        due("as much: least(0, 5)", x.least(0, 5), 4);
        dueWay(x, 0, 5, 0, 4, 5);
        x.stretch(4, 4);
        due("one more: least(0, 5)", x.least(0, 5), 4);
        dueWay(x, 0, 5, 0, 1, 2, 3, 5);
    }

    private static void firstByNumbers() {
        of("of these the first by numbers of ROADS (the lesser one, where they are unlike first)");
        // by 3 and 2, or by 4 and 1: they are unlike first at 3 and 4
        BarredTurns x = Check.read("ef1,ce1,de1,bd1,bc1,ab1");
        dueWay(x, 5, 0, 5, 3, 2, 0);
        // unlike only at the last but one
        BarredTurns late = Check.read("de1,cd3,cd3,bc1,ab1");
        dueWay(late, 4, 0, 4, 3, 1, 0);
        late.turn(3, 1, 1);
        dueWay(late, 4, 0, 4, 3, 2, 0);
    }

    /** Twelve roads that can only be gone one behind the other, at the greatest worth. */
    private static BarredTurns twelveInARow() {
        BarredTurns x = Check.allBarred(TWELVE);
        x.turn(10, 0, 50);
        for (int r = 0; r < 9; r++) {
            x.turn(r, r + 1, 50);
        }
        x.turn(9, 11, 50);
        return x;
    }

    private static void longestWay() {
        of("its WORTH: that of all of them together");
        BarredTurns x = twelveInARow();
        due("least(10, 11)", x.least(10, 11), 11 * 149);
        dueWay(x, 10, 11, 10, 0, 1, 2, 3, 4, 5, 6, 7, 8, 9, 11);
        due("least(11, 10)", x.least(11, 10), NONE);
        due("as many ways as can be over 4: road(4, 5)", x.road(4, 5), 30);
        due("all(0)", x.all(0), 4);
        due("all(1)", x.all(1), 30);
    }

    private static void arcsAtFirst() {
        of("ARCS lead from a ROAD to another one; at first all STEPS, no MIDDLE");
        BarredTurns x = Check.allBarred(RING);
        due("no STEPS: all(2)", x.all(2), 0);
        for (int i = 0; i < 9; i++) {
            dueArc(x, i / 3, i % 3, NONE, NONE);
            dueUnpacked(x, i / 3, i % 3);
        }
        x.turn(1, 2, 4);
        due("one STEP: all(2)", x.all(2), 1);
        due("all(3)", x.all(3), 0);
        dueArc(x, 1, 2, 5, NONE);
        dueUnpacked(x, 1, 2, 1, 2);
        dueArc(x, 2, 1, NONE, NONE);
    }

    /** From 2 to 3 at once, or by 0 and 1 with 3 together; RANKS by numbers. */
    private static BarredTurns twoWays(int costAtOnce) {
        BarredTurns x = Check.allBarred("bd1,db1,ab1,be1");
        x.turn(2, 0, 0);
        x.turn(0, 1, 0);
        x.turn(1, 3, 0);
        x.turn(2, 3, costAtOnce);
        return x;
    }

    private static void arcsOneAtMost() {
        of("one at most; an ARC from u to w, of WORTH W, with the MIDDLE v, in place of the one that there was");
        BarredTurns x = twoWays(50);
        dueOrder(x, 0, 1, 2, 3);
        dueArc(x, 2, 1, 2, 0);
        dueArc(x, 2, 3, 3, 1);
        due("all(2)", x.all(2), 5);
        due("all(3)", x.all(3), 2);
        due("road(1, 4)", x.road(1, 4), 1);
        dueUnpacked(x, 2, 3, 2, 0, 1, 3);
        due("the TURN stays: cost(2, 3)", x.cost(2, 3), 50);
    }

    private static void rowsNotOverTheMiddle() {
        of("NEEDS a SHORTCUT, if those not over v have more than W");
        BarredTurns less = twoWays(1);
        dueArc(less, 2, 3, 2, NONE);
        due("less: all(3)", less.all(3), 1);
        BarredTurns same = twoWays(2);
        dueArc(same, 2, 3, 3, NONE);
        due("as much: all(3)", same.all(3), 1);
        dueUnpacked(same, 2, 3, 2, 3);
        BarredTurns more = twoWays(3);
        dueArc(more, 2, 3, 3, 1);
        due("one more: all(3)", more.all(3), 2);
    }

    /** From 3 to 0 at once, or by 2 and 1 with 3 together; then to 4; RANKS by numbers. */
    private static BarredTurns twoWaysToTheMiddle(int costAtOnce) {
        BarredTurns x = Check.allBarred("bc1,db1,bd1,ab1,ce1");
        x.turn(3, 2, 0);
        x.turn(2, 1, 0);
        x.turn(1, 0, 0);
        x.turn(0, 4, 0);
        x.turn(3, 0, costAtOnce);
        return x;
    }

    private static void rowsOverTheMiddle() {
        of("NEEDS a SHORTCUT, if those over v have W together, or more; all SHORTCUTS come at once");
        // were the one from 1 to 4 there first, a row as good as that from 3 to 4 would not go over 0
        BarredTurns same = twoWaysToTheMiddle(2);
        dueArc(same, 1, 4, 2, 0);
        dueArc(same, 3, 4, 4, 0);
        dueUnpacked(same, 3, 4, 3, 0, 4);
        due("as much: road(0, 4)", same.road(0, 4), 2);
        BarredTurns dearer = twoWaysToTheMiddle(3);
        dueArc(dearer, 1, 4, 2, 0);
        dueArc(dearer, 2, 4, 3, 1);
        dueArc(dearer, 3, 4, 4, 2);
        dueUnpacked(dearer, 3, 4, 3, 2, 1, 0, 4);
        due("less over v: road(0, 4)", dearer.road(0, 4), 1);
        due("the dear ARC stays: arc(3, 0, 0)", dearer.arc(3, 0, 0), 4);
    }

    /** As twoWaysToTheMiddle, with 1 to begin and 3, 2 on the way: 1 gets its RANK ahead of these. */
    private static BarredTurns endAheadOfTheOthers(int costAtOnce) {
        BarredTurns x = Check.allBarred("bc1,ab1,db1,bd1,ce1");
        x.turn(1, 3, 0);
        x.turn(3, 2, 0);
        x.turn(2, 0, 0);
        x.turn(0, 4, 0);
        x.turn(1, 0, costAtOnce);
        return x;
    }

    private static void rowsOverTheMiddleThatStay() {
        of("NEEDS a SHORTCUT, if those over v have W together, or more (no later one takes its place)");
        BarredTurns same = endAheadOfTheOthers(2);
        dueArc(same, 1, 4, 4, 0);
        due("as much: all(3)", same.all(3), 3);
        BarredTurns dearer = endAheadOfTheOthers(3);
        dueArc(dearer, 1, 4, NONE, NONE);
        dueUnpacked(dearer, 1, 4);
        due("less over v: all(3)", dearer.all(3), 2);
    }

    private static void endsOfTheFirstNumber() {
        of("A ROAD v without RANK NEEDS a SHORTCUT from u to w, numbered from 0");
        // ORDER 1, 0, 2 is found while nothing leads from 0 to 1, or from 1 to 0
        BarredTurns from = Check.read("ab1,bc1,cd1");
        from.turn(0, 1, BARRED);
        from.rank();
        dueOrder(from, 1, 0, 2);
        from.turn(0, 1, 0);
        dueArc(from, 0, 2, 2, 1);
        due("u is 0: road(1, 4)", from.road(1, 4), 1);
        dueUnpacked(from, 0, 2, 0, 1, 2);
        BarredTurns to = Check.read("cd1,bc1,ab1");
        to.turn(1, 0, BARRED);
        to.rank();
        dueOrder(to, 1, 0, 2);
        to.turn(1, 0, 0);
        dueArc(to, 2, 0, 2, 1);
        due("w is 0: road(1, 4)", to.road(1, 4), 1);
        dueUnpacked(to, 2, 0, 2, 1, 0);
    }

    private static void roadsUnlike() {
        of("NEEDS a SHORTCUT from u to w (u, v, w unlike)");
        BarredTurns x = Check.read("ab1,ba1");
        x.turn(0, 1, 0);
        x.turn(1, 0, 0);
        x.rank();
        due("all(2)", x.all(2), 2);
        due("all(3)", x.all(3), 0);
        dueArc(x, 0, 0, NONE, NONE);
        dueArc(x, 1, 1, NONE, NONE);
        due("least(1, 1)", x.least(1, 1), 0);
    }

    private static void roadsWithRank() {
        of("u, v, w: none with a RANK; rows that lead over ROADS without RANK");
        BarredTurns chain = Check.read("ab1,bc1,cd1");
        dueOrder(chain, 0, 1, 2);
        due("0 has a RANK, so 1 needs none: all(3)", chain.all(3), 0);
        dueArc(chain, 0, 2, NONE, NONE);
        // 0 is as good as 1, so it needs none; then it has a RANK, so 1 needs one
        BarredTurns x = Check.read("bc2,bc2,ab1,cd1");
        dueOrder(x, 0, 1, 2, 3);
        due("road(0, 4)", x.road(0, 4), 0);
        due("road(1, 4)", x.road(1, 4), 1);
        dueArc(x, 2, 3, 3, 1);
        due("ARCS of ROADS with RANKS stay: arc(2, 0, 0)", x.arc(2, 0, 0), 2);
        due("arc(0, 3, 0)", x.arc(0, 3, 0), 1);
    }

    private static void orderOfLikeOnes() {
        of("ORDER: that of which (..) - (..) is least: of like ones the least");
        dueOrder(Check.read("ab1"), 0);
        dueOrder(Check.read("ab1,ab1,ab1"), 0, 1, 2);
        // 1 and 2 have an ARC each, so 1 comes first; then 2 has none to a ROAD without RANK, and 0 comes
        dueOrder(Check.read("gh1,ab1,bc1"), 1, 0, 2);
        // 0 needs a SHORTCUT from 1 to 2 and has two ARCS; 1 and 2 need none and have one: all are like
        dueOrder(Check.read("bc1,ab1,cd1"), 0, 1, 2);
        // 0 needs four and has four, so 1 comes first; then 0 needs two and has three, like the others; then 2 has two
        dueOrder(Check.read("bc1,ab1,ab1,cd1,cd1"), 1, 0, 2, 3, 4);
    }

    private static void orderAsItIs() {
        of("When a LENGTH or a TURN is altered, all ARCS are made anew, RANKS given in the ORDER as it is");
        BarredTurns x = Check.read("gh1,ab1,bc1");
        x.turn(1, 2, BARRED);
        dueOrder(x, 1, 0, 2);
        due("rank()", x.rank(), 2);
        dueOrder(x, 0, 1, 2);
        BarredTurns ring = Check.read(RING);
        dueArc(ring, 2, 1, 2, 0);
        ring.stretch(0, 99);
        dueArc(ring, 2, 1, 100, 0);
        ring.turn(0, 1, 50);
        dueArc(ring, 2, 1, 150, 0);
        ring.turn(2, 0, BARRED);
        dueArc(ring, 2, 1, NONE, NONE);
        due("no SHORTCUT of before stays: all(3)", ring.all(3), 0);
        due("all(2)", ring.all(2), 2);
    }

    private static void longestUnpacked() {
        of("UNPACKED: both ends, if it has no MIDDLE; else .. (the MIDDLE once)");
        BarredTurns x = twelveInARow();
        dueArc(x, 10, 11, 11 * 149, 9);
        dueUnpacked(x, 10, 11, 10, 0, 1, 2, 3, 4, 5, 6, 7, 8, 9, 11);
        dueUnpacked(x, 10, 1, 10, 0, 1);
        dueUnpacked(x, 10, 0, 10, 0);
        dueUnpacked(x, 10, 10);
        due("all(2)", x.all(2), 21);
        due("all(3)", x.all(3), 10);
        due("up(10, 11)", x.up(10, 11), 11 * 149);
        due("meet(10, 11)", x.meet(10, 11), 11);
    }

    private static void longestUnpackedBehindTheMiddle() {
        of("UNPACKED: what the ARC to the MIDDLE stands for, then what that from it does");
        // in one row behind each other: 10, then 9 to 0, then 11
        BarredTurns x = Check.allBarred("eg1,ce1,ac1,ha1,gh1,fg1,ef1,de1,cd1,bc1,ab1,ga1");
        x.turn(10, 9, 0);
        for (int r = 9; r > 0; r--) {
            x.turn(r, r - 1, 0);
        }
        x.turn(0, 11, 0);
        dueArc(x, 10, 11, 11, 9);
        dueArc(x, 9, 11, 10, 8);
        dueUnpacked(x, 10, 11, 10, 9, 8, 7, 6, 5, 4, 3, 2, 1, 0, 11);
        dueUnpacked(x, 1, 11, 1, 0, 11);
        due("all(2)", x.all(2), 21);
        due("all(3)", x.all(3), 10);
    }

    private static void upsAndDowns() {
        of("UP: each to one of greater RANK (0 from one to itself); none. DOWN: likewise, each to one of lesser RANK");
        // RANKS: 1, 0, 2; an ARC from 1 to 2
        BarredTurns x = Check.read("gh1,ab1,bc7");
        int[][] ups = {{0, NONE, NONE}, {NONE, 0, 7}, {NONE, NONE, 0}};
        for (int i = 0; i < 9; i++) {
            due("up(" + i / 3 + ", " + i % 3 + ")", x.up(i / 3, i % 3), ups[i / 3][i % 3]);
            due("down(" + i / 3 + ", " + i % 3 + ")", x.down(i / 3, i % 3), i / 3 == i % 3 ? 0 : NONE);
        }
        // RANKS by numbers; ARCS from 0 to 2, from 2 to 1, from 1 to 0, and from 1 to 2 over 0
        BarredTurns ring = Check.read("ca1,bc2,ab3");
        due("down(2, 0) by 1", ring.down(2, 0), 3);
        due("up(0, 2) at once", ring.up(0, 2), 3);
        due("down(1, 0)", ring.down(1, 0), 1);
        due("up(1, 2): a SHORTCUT over 0", ring.up(1, 2), 4);
        due("no ARC leads down from 0", ring.down(0, 2), NONE);
        due("no ARC leads up from 2", ring.up(2, 0), NONE);
    }

    private static void meetsOfLikeOnes() {
        of("MEET: the ROAD m of which .. are least together: of like ones the least number; none");
        // 0 and 3 get their RANKS first; 1 and 2 are alike between them
        BarredTurns x = Check.read("ab1,bc2,bc2,cd1");
        dueOrder(x, 0, 3, 1, 2);
        due("meet(0, 3), by 1 or 2", x.meet(0, 3), 1);
        x.stretch(1, 3);
        due("meet(0, 3), by 2", x.meet(0, 3), 2);
        due("meet(3, 0)", x.meet(3, 0), NONE);
        due("meet(1, 2)", x.meet(1, 2), NONE);
        for (int r = 0; r < 4; r++) {
            due("meet(" + r + ", " + r + ")", x.meet(r, r), r);
        }
    }

    private static void routesThatAreNone() {
        of("ROUTE from a PLACE to another one: the least ..; none");
        BarredTurns x = Check.read("ab3,bc4");
        due("one ROAD: route(0, 1)", x.route(0, 1), 3);
        due("two ROADS: route(0, 2)", x.route(0, 2), 7);
        due("the other way: route(1, 0)", x.route(1, 0), NONE);
        due("a PLACE without ROADS: route(3, 7)", x.route(3, 7), NONE);
        x.turn(0, 1, 50);
        due("with a COST: route(0, 2)", x.route(0, 2), 57);
        x.turn(0, 1, BARRED);
        due("BARRED: route(0, 2)", x.route(0, 2), NONE);
        BarredTurns many = Check.read("ab9,ab3,bc4,bc5,ac8");
        due("of several the least: route(0, 2)", many.route(0, 2), 7);
        many.turn(1, 2, 2);
        due("the least is another: route(0, 2)", many.route(0, 2), 8);
    }

    private static void lossesOfBoth() {
        of("LOSS: by how much the ROUTE would be longer without that ROAD (and all its TURNS), or n");
        // without 0: a to b is cut off, a to c two longer
        BarredTurns x = Check.read("ab3,bc4,ac9");
        due("loss(0, 0)", x.loss(0, 0), 2);
        due("loss(0, 1)", x.loss(0, 1), 3);
        due("loss(0, 999)", x.loss(0, 999), 1001);
        // without 1: b to c is cut off, a to c two longer
        due("loss(1, 10)", x.loss(1, 10), 12);
        due("a ROAD of no ROUTE: loss(2, 999)", x.loss(2, 999), 0);
        due("the only ROAD: loss(0, 0)", Check.read("ab5").loss(0, 0), 0);
        due("the only ROAD: loss(0, 999)", Check.read("ab5").loss(0, 999), 999);
    }

    private static void lossesAtMost() {
        of("LOSS of a ROAD, by a WORTH n (0 to 999): of all two unlike PLACES (from, to) with a ROUTE");
        BarredTurns x = Check.read("ab99,bc99,cd99,de99,ef99,fg99,gh99,ha99");
        due("all(4)", x.all(4), 56);
        due("all(5)", x.all(5), 8 * 28 * 99);
        // a ring without one ROAD is a row: half of the ROUTES are cut off, the others stay
        for (int r = 0; r < 8; r++) {
            due("loss(" + r + ", 0)", x.loss(r, 0), 0);
            due("loss(" + r + ", 1)", x.loss(r, 1), 28);
            due("loss(" + r + ", 999)", x.loss(r, 999), 28 * 999);
        }
    }

    private static void busyWithoutEnds() {
        of("BUSY of a ROAD: in how many THE WAYS from a ROAD to another one it lies, without the ends");
        due("one ROAD", Check.read("ab1").road(0, 5), 0);
        BarredTurns two = Check.read("ab1,bc1");
        due("two ROADS: road(0, 5)", two.road(0, 5), 0);
        due("two ROADS: road(1, 5)", two.road(1, 5), 0);
        BarredTurns three = Check.read("ab1,bc1,cd1");
        due("three ROADS: road(0, 5)", three.road(0, 5), 0);
        due("three ROADS: road(1, 5)", three.road(1, 5), 1);
        due("three ROADS: road(2, 5)", three.road(2, 5), 0);
        // of two as good only that of THE WAY is busy
        BarredTurns like = Check.read("ab1,bc2,bc2,cd1");
        due("road(1, 5)", like.road(1, 5), 1);
        due("road(2, 5)", like.road(2, 5), 0);
    }

    private static void fiveHundredAndTwelveCalls() {
        of("An object is used for at most 512 calls after it has been made");
        BarredTurns x = Check.read("ab1");
        for (int call = 5; call <= 511; call++) {
            due("call " + call, x.stretch(0, call % 99 + 1), call == 5 ? 1 : (call - 1) % 99 + 1);
        }
        due("call 512", x.count(5), 507);
    }
}
