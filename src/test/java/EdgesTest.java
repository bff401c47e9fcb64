import java.util.function.ToIntFunction;

/** The promises, one by one: each sentence that names a bound, an empty or a full case, a wrap-around, a refusal. */
public final class EdgesTest {
    private static final int NONE = -1, UNKNOWN = -101, OUTSIDE = -102, STATE = -103, FULL = -104, BARRED = -5;
    private static final int LEAST_INT = Integer.MIN_VALUE, GREATEST_INT = Integer.MAX_VALUE;
    /** What names none of the four roads of worked(): the nearest ones, those about the most, the farthest ones. */
    private static final int[] NO_ROADS = {-1, 4, 5, 11, 12, 13, 144, LEAST_INT, GREATEST_INT};
    /** Twelve roads, with as many letters as roads can have: 59. */
    private static final String LONGEST = "ab10,bc20,cd30,de40,ef50,fg60,gh70,ha80,ab90,bc91,cd92,de99";
    private static final Check CHECK = new Check("EdgesTest");

    public static void main(String[] args) {
        newObject();
        letterCodes();
        letterFull();
        blanks();
        faultsByLetter();
        faultsByPage();
        readingsRefused();
        readingsAnew();
        stretches();
        turns();
        ranks();
        ranksThatTurn();
        roadsAsked();
        costs();
        orders();
        leasts();
        ways();
        arcs();
        unpackings();
        ups();
        downs();
        meetings();
        routes();
        losses();
        alls();
        counts();
        digests();
        CHECK.end();
    }

    private static void of(String sentence) {
        CHECK.of(sentence);
    }

    private static void due(String call, long got, long want) {
        CHECK.due(call, got, want);
    }

    /** Four roads, where all has happened that can happen: a SHORTCUT, COSTS, a LENGTH altered, letters. */
    private static BarredTurns worked() {
        BarredTurns x = Check.read("ab5,ba6,bc2,ca9");
        x.turn(0, 1, 7);
        x.turn(3, 0, 50);
        x.stretch(2, 3);
        x.rank();
        Check.write(x, "gh1,hg9");
        return x;
    }

    private static BarredTurns withPage(String text) {
        BarredTurns x = worked();
        x.blank();
        Check.write(x, text);
        return x;
    }

    private static void refused(String call, int want, ToIntFunction<BarredTurns> refusedCall) {
        CHECK.refused(call, want, EdgesTest::worked, refusedCall);
    }

    /** What a call of two roads says of a road that is none, on either side, on both, and on a new object. */
    private interface OfTwoRoads {
        int ask(BarredTurns x, int r, int s);
    }

    private static void unknownRoads(String call, OfTwoRoads asked) {
        for (int road : NO_ROADS) {
            refused(call + " of " + road + " and 0", UNKNOWN, x -> asked.ask(x, road, 0));
            refused(call + " of 0 and " + road, UNKNOWN, x -> asked.ask(x, 0, road));
            refused(call + " of " + road + " twice", UNKNOWN, x -> asked.ask(x, road, road));
        }
        CHECK.refused(call + " of a new object", UNKNOWN, BarredTurns::new, x -> asked.ask(x, 0, 0));
    }

    /** What a call of one road says of one that is none, and on a new object. */
    private static void unknownRoad(String call, OfTwoRoads asked, int other) {
        for (int road : NO_ROADS) {
            refused(call + " of " + road + " and " + other, UNKNOWN, x -> asked.ask(x, road, other));
        }
        CHECK.refused(call + " of a new object", UNKNOWN, BarredTurns::new, x -> asked.ask(x, 0, other));
    }

    private static void newObject() {
        of("1: No ROADS");
        BarredTurns x = new BarredTurns();
        due("count(0)", x.count(0), 0);
        due("count(1)", x.count(1), 0);
        due("order(0)", x.order(0), UNKNOWN);
        due("road(0, 0)", x.road(0, 0), UNKNOWN);
        for (int from = 0; from < 8; from++) {
            for (int to = 0; to < 8; to++) {
                due("route(" + from + ", " + to + ")", x.route(from, to), from == to ? STATE : NONE);
            }
        }
        due("fault()", x.fault(), 0);
    }

    private static void letterCodes() {
        of("2: OUTSIDE: code (32 to 126)");
        for (int code = 32; code <= 126; code++) {
            BarredTurns x = new BarredTurns();
            due("letter(" + code + ")", x.letter(code), 1);
            due("letter(" + code + ") behind it", x.letter(code), 2);
            due("digest() has it", x.digest(), Check.digestOf(x, "" + (char) code + (char) code));
        }
        for (int code : new int[] {31, 127, 0, -1, 128, 255, 256 + 'a', LEAST_INT, GREATEST_INT}) {
            refused("letter(" + code + ")", OUTSIDE, x -> x.letter(code));
        }
    }

    private static void letterFull() {
        of("2: FULL: above 60");
        String sixty = LONGEST + ",";
        BarredTurns x = new BarredTurns();
        for (int i = 1; i <= 60; i++) {
            due("letter " + i, x.letter(sixty.charAt(i - 1)), i);
        }
        due("letter 61", x.letter('a'), FULL);
        due("letter 61 again", x.letter('a'), FULL);
        due("count(1)", x.count(1), 60);
        CHECK.refused("letter(97) of a full page", FULL, () -> withPage(sixty), y -> y.letter('a'));
        CHECK.refused("letter(31) of a full page", OUTSIDE, () -> withPage(sixty), y -> y.letter(31));
        CHECK.refused("letter(127) of a full page", OUTSIDE, () -> withPage(sixty), y -> y.letter(127));
        x.blank();
        due("there is room again", x.letter('a'), 1);
    }

    private static void blanks() {
        of("3: THE PAGE is empty: how many letters it had");
        BarredTurns x = new BarredTurns();
        due("blank() of an empty page", x.blank(), 0);
        x.letter('a');
        due("blank() of one letter", x.blank(), 1);
        due("blank() again", x.blank(), 0);
        Check.write(x, LONGEST + "xy");
        due("blank() of a full page", x.blank(), 60);
        due("count(1)", x.count(1), 0);
        due("fault()", x.fault(), 0);
        due("nothing stays of it: roads()", x.roads(), STATE);
        BarredTurns empty = worked();
        empty.blank();
        due("ROADS stay", empty.count(0), 4);
        String before = Check.state(empty);
        empty.blank();
        CHECK.holds("blank() of an empty page changes nothing", Check.state(empty).equals(before));
    }

    private static void faultsByLetter() {
        of("4: the first letter of THE PAGE that no ROADS have there, behind those ahead of it");
        String twelve = "ab1,ab1,ab1,ab1,ab1,ab1,ab1,ab1,ab1,ab1,ab1,cd1";
        String[][] stages = {
            {"", "abcdefgh"}, {"a", "bcdefgh"}, {"d", "abcefgh"}, {"h", "abcdefg"}, {"cd", "123456789"},
            {"cd1", "0123456789,"}, {"cd9", "0123456789,"}, {"cd10", ","}, {"cd99", ","}, {"cd1,", "abcdefgh"},
            {"cd1,d", "abcefgh"}, {"cd1,cd", "123456789"}, {twelve, "0123456789"}, {twelve + "0", ""}, {LONGEST, ""},
        };
        for (String[] stage : stages) {
            int ahead = stage[0].length();
            for (char code = 32; code <= 126; code++) {
                BarredTurns x = new BarredTurns();
                Check.write(x, stage[0] + code);
                boolean right = stage[1].indexOf(code) >= 0;
                due("fault() of '" + stage[0] + code + "'", x.fault(), right ? ahead + 1 : ahead);
            }
        }
    }

    private static void faultsByPage() {
        of("4: how many letters it has, if there is none");
        Object[][] pages = {
            {"", 0}, {"a", 1}, {"ab", 2}, {"ab1", 3}, {"ab1,", 4}, {LONGEST, 59}, {LONGEST + ",", 59}, {LONGEST + "9", 59},
            {"~" + LONGEST, 0}, {"ab1;ab1;ab1", 3}, {"aab1,bb1", 1},
        };
        for (Object[] page : pages) {
            String text = (String) page[0];
            BarredTurns x = withPage(text);
            String before = Check.state(x);
            due("fault() of '" + text + "'", x.fault(), (Integer) page[1]);
            due("fault() again", x.fault(), (Integer) page[1]);
            due("letters stay", x.count(1), text.length());
            CHECK.holds("fault() of '" + text + "' changes nothing", Check.state(x).equals(before));
        }
    }

    private static void readingsRefused() {
        of("5: STATE: it is none");
        String[] none = {
            "", "a", "ab", "ab1,", "ab1,a", "ab1,ab", ",", "aa1", "ab0", "ab01", "ab100", "ai1", "ab1 ", " ab1", "ab1,,ab1",
            "ab1,ab1,ab1,ab1,ab1,ab1,ab1,ab1,ab1,ab1,ab1,ab1,ab1", LONGEST + ",", LONGEST + "0",
        };
        for (String text : none) {
            CHECK.refused("roads() of '" + text + "'", STATE, () -> withPage(text), BarredTurns::roads);
        }
        CHECK.refused("roads() of a new object", STATE, BarredTurns::new, BarredTurns::roads);
    }

    private static void readingsAnew() {
        of("5: THE PAGE is read as ROADS (others are gone): how many; ORDER is found; THE PAGE is empty then");
        BarredTurns x = withPage(LONGEST);
        due("roads() of twelve", x.roads(), 12);
        due("count(1)", x.count(1), 0);
        due("roads() of the empty page", x.roads(), STATE);
        due("count(0)", x.count(0), 12);
        due("road(11, 2)", x.road(11, 2), 99);
        Check.write(x, "ab1");
        due("roads() of one", x.roads(), 1);
        due("road(0, 2)", x.road(0, 2), 1);
        due("others are gone: road(1, 0)", x.road(1, 0), UNKNOWN);
        due("others are gone: count(2)", x.count(2), 0);
        due("others are gone: count(3)", x.count(3), 0);
        due("others are gone: all(2)", x.all(2), 0);
        due("others are gone: all(4)", x.all(4), 1);
        due("ORDER is found: order(0)", x.order(0), 0);
        due("order(1)", x.order(1), UNKNOWN);
        BarredTurns barred = Check.read("ab1,ba1");
        due("count(3) of both", barred.count(3), 2);
        Check.write(barred, "ab1");
        barred.roads();
        due("others are gone: count(3)", barred.count(3), 0);
        BarredTurns fresh = Check.read("gh1,ab1,bc1");
        BarredTurns later = withPage("gh1,ab1,bc1");
        later.roads();
        for (int r = 0; r < 3; r++) {
            due("ORDER is found anew: order(" + r + ")", later.order(r), fresh.order(r));
        }
    }

    private static void stretches() {
        of("6: OUTSIDE: v (1 to 99)");
        for (int v : new int[] {0, 100, -1, 101, BARRED, LEAST_INT, GREATEST_INT}) {
            refused("stretch(0, " + v + ")", OUTSIDE, x -> x.stretch(0, v));
        }
        BarredTurns x = worked();
        due("the least: stretch(2, 1)", x.stretch(2, 1), 3);
        due("route(1, 2) then", x.route(1, 2), 1);
        due("the most: stretch(2, 99)", x.stretch(2, 99), 1);
        due("route(1, 2) then", x.route(1, 2), 99);
        due("as it was: stretch(2, 99)", x.stretch(2, 99), 99);
        due("the last ROAD: stretch(3, 1)", x.stretch(3, 1), 9);
        of("6: UNKNOWN: road");
        unknownRoad("stretch", BarredTurns::stretch, 1);
        unknownRoad("stretch, OUTSIDE too,", BarredTurns::stretch, 0);
        unknownRoad("stretch, OUTSIDE too,", BarredTurns::stretch, 100);
    }

    private static void turns() {
        of("7: OUTSIDE: v (a COST, 0 to 50, or BARRED)");
        for (int v : new int[] {-1, 51, -4, -6, 52, STATE, LEAST_INT, GREATEST_INT}) {
            refused("turn(0, 2, " + v + ")", OUTSIDE, x -> x.turn(0, 2, v));
            refused("turn(1, 0, " + v + ") of one that is BARRED", OUTSIDE, x -> x.turn(1, 0, v));
        }
        BarredTurns x = worked();
        due("the most: turn(0, 2, 50)", x.turn(0, 2, 50), 0);
        due("least(0, 2) then", x.least(0, 2), 53);
        due("the least: turn(0, 2, 0)", x.turn(0, 2, 0), 50);
        due("least(0, 2) then", x.least(0, 2), 3);
        due("BARRED: turn(0, 2, BARRED)", x.turn(0, 2, BARRED), 0);
        due("least(0, 2) then", x.least(0, 2), NONE);
        due("as it was: turn(0, 2, BARRED)", x.turn(0, 2, BARRED), BARRED);
        due("no more: turn(0, 2, 1)", x.turn(0, 2, 1), BARRED);
        of("7: STATE: no TURN leads from r to s");
        for (int v : new int[] {0, 50, BARRED, 51, -1}) {
            refused("turn(0, 0, " + v + ")", STATE, y -> y.turn(0, 0, v));
            refused("turn(0, 3, " + v + ")", STATE, y -> y.turn(0, 3, v));
            refused("turn(2, 0, " + v + ")", STATE, y -> y.turn(2, 0, v));
        }
        of("7: UNKNOWN: r, s");
        unknownRoads("turn", (y, r, s) -> y.turn(r, s, 0));
        unknownRoads("turn, OUTSIDE too,", (y, r, s) -> y.turn(r, s, 51));
    }

    private static void ranks() {
        of("8: how many ROADS have another RANK then");
        due("rank() without ROADS", new BarredTurns().rank(), 0);
        due("rank() of one ROAD", Check.read("ab1").rank(), 0);
        BarredTurns x = Check.read("gh1,ab1,bc1");
        due("rank() of an ORDER just found", x.rank(), 0);
        x.turn(1, 2, BARRED);
        due("rank() of two that change", x.rank(), 2);
        due("rank() again", x.rank(), 0);
        x.turn(1, 2, 50);
        due("rank() back", x.rank(), 2);
        due("UP goes by the RANKS that are: up(1, 2)", x.up(1, 2), 51);
        Check.write(x, "ab1,bc1,gh1");
        x.roads();
        due("rank() of other ROADS just read", x.rank(), 0);
    }

    private static void ranksThatTurn() {
        of("8: ORDER is found anew, by LENGTHS and TURNS as they are");
        // ORDER is 1, 0, 2 as long as the TURN from 0 to 1 is BARRED, else 0, 1, 2
        BarredTurns x = Check.read("ab1,bc1,cd1");
        x.turn(0, 1, BARRED);
        due("rank()", x.rank(), 2);
        x.turn(0, 1, 0);
        due("from 0 down to 1: up(0, 1)", x.up(0, 1), NONE);
        due("down(0, 1)", x.down(0, 1), 1);
        due("meet(0, 1)", x.meet(0, 1), 0);
        due("over 1: all(3)", x.all(3), 1);
        due("rank() again", x.rank(), 2);
        due("from 0 up to 1: up(0, 1)", x.up(0, 1), 1);
        due("down(0, 1)", x.down(0, 1), NONE);
        due("meet(0, 1)", x.meet(0, 1), 1);
        due("over none: all(3)", x.all(3), 0);
    }

    private static void roadsAsked() {
        of("9: OUTSIDE: what");
        for (int what : new int[] {-1, 6, 7, LEAST_INT, GREATEST_INT}) {
            refused("road(0, " + what + ")", OUTSIDE, x -> x.road(0, what));
            refused("road(3, " + what + ")", OUTSIDE, x -> x.road(3, what));
        }
        of("9: UNKNOWN: road");
        unknownRoad("road", BarredTurns::road, 0);
        unknownRoad("road", BarredTurns::road, 5);
        unknownRoad("road, OUTSIDE too,", BarredTurns::road, -1);
        unknownRoad("road, OUTSIDE too,", BarredTurns::road, 6);
    }

    private static void costs() {
        of("10: COST of a TURN; BARRED");
        BarredTurns x = worked();
        due("cost(0, 1)", x.cost(0, 1), 7);
        due("the most: cost(3, 0)", x.cost(3, 0), 50);
        due("the least: cost(0, 2)", x.cost(0, 2), 0);
        due("BARRED: cost(1, 0)", x.cost(1, 0), BARRED);
        of("10: STATE: no TURN leads from r to s");
        refused("cost(0, 0)", STATE, y -> y.cost(0, 0));
        refused("cost(0, 3)", STATE, y -> y.cost(0, 3));
        refused("cost(2, 0)", STATE, y -> y.cost(2, 0));
        of("10: UNKNOWN: r, s");
        unknownRoads("cost", BarredTurns::cost);
    }

    private static void orders() {
        of("11: UNKNOWN: rank");
        BarredTurns x = worked();
        for (int rank = 0; rank < 4; rank++) {
            due("the RANK of order(" + rank + ")", x.road(x.order(rank), 3), rank);
        }
        for (int rank : NO_ROADS) {
            refused("order(" + rank + ")", UNKNOWN, y -> y.order(rank));
        }
        CHECK.refused("order(0) of a new object", UNKNOWN, BarredTurns::new, y -> y.order(0));
        BarredTurns twelve = Check.read(LONGEST);
        CHECK.holds("order(11) of twelve is a ROAD", twelve.order(11) >= 0 && twelve.order(11) < 12);
        due("order(12) of twelve", twelve.order(12), UNKNOWN);
    }

    private static void leasts() {
        of("12: LEAST; NONE");
        BarredTurns x = worked();
        due("least(0, 0)", x.least(0, 0), 0);
        due("least(0, 3)", x.least(0, 3), 12);
        due("least(1, 0)", x.least(1, 0), NONE);
        of("12: UNKNOWN: r, s");
        unknownRoads("least", BarredTurns::least);
    }

    private static void ways() {
        of("13: NONE: there is no WAY, or it has not so many (place below 0, too)");
        BarredTurns x = worked();
        int[] way = {NONE, 0, 2, 3, NONE};
        for (int place = -1; place <= 3; place++) {
            due("way(0, 3, " + place + ")", x.way(0, 3, place), way[place + 1]);
            due("way(2, 2, " + place + ")", x.way(2, 2, place), place == 0 ? 2 : NONE);
            due("way(1, 0, " + place + ")", x.way(1, 0, place), NONE);
        }
        for (int place : new int[] {LEAST_INT, -2, 4, 11, 12, 13, GREATEST_INT}) {
            due("way(0, 3, " + place + ")", x.way(0, 3, place), NONE);
            due("way(2, 2, " + place + ")", x.way(2, 2, place), NONE);
            due("way(1, 0, " + place + ")", x.way(1, 0, place), NONE);
        }
        of("13: UNKNOWN: r, s");
        unknownRoads("way", (y, r, s) -> y.way(r, s, 0));
        unknownRoads("way, with no such place,", (y, r, s) -> y.way(r, s, -1));
    }

    private static void arcs() {
        of("14: what = 0 WORTH, 1 MIDDLE (NONE: it has none), ..; NONE: there is no such ARC");
        BarredTurns x = Check.read("ab1,bc2,ca3");
        int[] up = {2, NONE, 1, 2};
        int[] down = {1, NONE, 0, 2};
        int[] over = {3, 0, 0, 3};
        for (int what = 0; what <= 3; what++) {
            due("without a MIDDLE, up: arc(0, 1, " + what + ")", x.arc(0, 1, what), up[what]);
            due("without a MIDDLE, down: arc(2, 0, " + what + ")", x.arc(2, 0, what), down[what]);
            due("with a MIDDLE, down: arc(2, 1, " + what + ")", x.arc(2, 1, what), over[what]);
            due("no such ARC: arc(0, 2, " + what + ")", x.arc(0, 2, what), NONE);
            due("no such ARC: arc(1, 1, " + what + ")", x.arc(1, 1, what), NONE);
        }
        of("14: OUTSIDE: what");
        for (int what : new int[] {-1, 4, 5, LEAST_INT, GREATEST_INT}) {
            refused("arc(0, 2, " + what + ")", OUTSIDE, y -> y.arc(0, 2, what));
            refused("arc(0, 0, " + what + ") without an ARC", OUTSIDE, y -> y.arc(0, 0, what));
        }
        of("14: UNKNOWN: r, s");
        unknownRoads("arc", (y, r, s) -> y.arc(r, s, 0));
        unknownRoads("arc, OUTSIDE too,", (y, r, s) -> y.arc(r, s, -1));
        unknownRoads("arc, OUTSIDE too,", (y, r, s) -> y.arc(r, s, 4));
    }

    private static void unpackings() {
        of("15: NONE: there is no such ARC, or it has not so many (place below 0, too)");
        BarredTurns x = Check.read("ab1,bc2,ca3");
        int[] over = {NONE, 2, 0, 1, NONE};
        int[] plain = {NONE, 0, 1, NONE, NONE};
        for (int place = -1; place <= 3; place++) {
            due("unpacked(2, 1, " + place + ")", x.unpacked(2, 1, place), over[place + 1]);
            due("unpacked(0, 1, " + place + ")", x.unpacked(0, 1, place), plain[place + 1]);
            due("unpacked(0, 2, " + place + ")", x.unpacked(0, 2, place), NONE);
            due("unpacked(1, 1, " + place + ")", x.unpacked(1, 1, place), NONE);
        }
        for (int place : new int[] {LEAST_INT, -2, 4, 11, 12, 13, GREATEST_INT}) {
            due("unpacked(2, 1, " + place + ")", x.unpacked(2, 1, place), NONE);
            due("unpacked(0, 1, " + place + ")", x.unpacked(0, 1, place), NONE);
            due("unpacked(0, 2, " + place + ")", x.unpacked(0, 2, place), NONE);
        }
        of("15: UNKNOWN: r, s");
        unknownRoads("unpacked", (y, r, s) -> y.unpacked(r, s, 0));
        unknownRoads("unpacked, with no such place,", (y, r, s) -> y.unpacked(r, s, -1));
    }

    private static void ups() {
        of("16: UP; NONE");
        BarredTurns x = Check.read("ab1,bc2,ca3");
        due("up(0, 2)", x.up(0, 2), 5);
        due("up(2, 2)", x.up(2, 2), 0);
        due("up(2, 0)", x.up(2, 0), NONE);
        of("16: UNKNOWN: r, s");
        unknownRoads("up", BarredTurns::up);
    }

    private static void downs() {
        of("17: DOWN; NONE");
        BarredTurns x = Check.read("ab1,bc2,ca3");
        due("down(2, 0)", x.down(2, 0), 1);
        due("down(0, 0)", x.down(0, 0), 0);
        due("down(0, 2)", x.down(0, 2), NONE);
        of("17: UNKNOWN: r, s");
        unknownRoads("down", BarredTurns::down);
    }

    private static void meetings() {
        of("18: MEET; NONE");
        BarredTurns x = Check.read("ab1,bc2,ca3,ha1");
        due("meet(1, 0)", x.meet(1, 0), 2);
        due("meet(0, 0)", x.meet(0, 0), 0);
        due("meet(0, 3)", x.meet(0, 3), NONE);
        of("18: UNKNOWN: r, s");
        unknownRoads("meet", BarredTurns::meet);
    }

    private static void routes() {
        of("19: ROUTE; NONE");
        BarredTurns x = Check.read("ah9,ha7");
        due("route(0, 7)", x.route(0, 7), 9);
        due("route(7, 0)", x.route(7, 0), 7);
        due("route(0, 1)", x.route(0, 1), NONE);
        due("route(6, 7)", x.route(6, 7), NONE);
        of("19: UNKNOWN: from, to (0 to 7)");
        for (int place : new int[] {-1, 8, 9, 64, LEAST_INT, GREATEST_INT}) {
            refused("route(" + place + ", 0)", UNKNOWN, y -> y.route(place, 0));
            refused("route(7, " + place + ")", UNKNOWN, y -> y.route(7, place));
            refused("route(" + place + ", " + place + ")", UNKNOWN, y -> y.route(place, place));
            CHECK.refused("route(0, " + place + ") of a new object", UNKNOWN, BarredTurns::new, y -> y.route(0, place));
        }
        of("19: STATE: they are the same");
        for (int place = 0; place < 8; place++) {
            int same = place;
            refused("route(" + same + ", " + same + ")", STATE, y -> y.route(same, same));
        }
    }

    private static void losses() {
        of("20: OUTSIDE: n (0 to 999)");
        for (int n : new int[] {-1, 1000, 1001, LEAST_INT, GREATEST_INT}) {
            refused("loss(0, " + n + ")", OUTSIDE, x -> x.loss(0, n));
        }
        BarredTurns x = Check.read("ab5");
        String before = Check.state(x);
        due("the least: loss(0, 0)", x.loss(0, 0), 0);
        due("loss(0, 1)", x.loss(0, 1), 1);
        due("loss(0, 998)", x.loss(0, 998), 998);
        due("the most: loss(0, 999)", x.loss(0, 999), 999);
        CHECK.holds("loss() changes nothing", Check.state(x).equals(before));
        of("20: UNKNOWN: road");
        unknownRoad("loss", BarredTurns::loss, 0);
        unknownRoad("loss", BarredTurns::loss, 999);
        unknownRoad("loss, OUTSIDE too,", BarredTurns::loss, -1);
        unknownRoad("loss, OUTSIDE too,", BarredTurns::loss, 1000);
    }

    private static void dueAll(BarredTurns x, int... want) {
        for (int what = 0; what <= 5; what++) {
            due("all(" + what + ")", x.all(what), want[what]);
        }
    }

    private static void alls() {
        of("21: NONE: there are no ROADS; (0)");
        dueAll(new BarredTurns(), NONE, 0, 0, 0, 0, 0);
        of("21: the ROAD that is BUSY in most (of like ones the least)");
        dueAll(Check.read("gh7"), 0, 0, 0, 0, 1, 7);
        dueAll(Check.read("ab1,bc1,cd1,de1"), 1, 2, 3, 0, 10, 20);
        dueAll(Check.read("cd1,bc1,ab1"), 1, 1, 2, 0, 6, 10);
        of("21: OUTSIDE");
        for (int what : new int[] {-1, 6, 7, LEAST_INT, GREATEST_INT}) {
            refused("all(" + what + ")", OUTSIDE, x -> x.all(what));
            CHECK.refused("all(" + what + ") of a new object", OUTSIDE, BarredTurns::new, x -> x.all(what));
        }
    }

    private static void dueCounts(BarredTurns x, int... want) {
        for (int what = 0; what <= 6; what++) {
            due("count(" + what + ")", x.count(what), want[what]);
        }
    }

    private static void counts() {
        of("22: How many");
        dueCounts(new BarredTurns(), 0, 0, 0, 0, 0, 0, 0);
        dueCounts(worked(), 4, 7, 5, 1, 1, 3, 1);
        of("22: how often something was altered by stretch() or turn() (also if it stays as it was)");
        BarredTurns x = worked();
        x.stretch(2, 3);
        x.turn(0, 1, 7);
        x.turn(1, 0, BARRED);
        dueCounts(x, 4, 7, 5, 1, 1, 6, 1);
        of("22: how often ROADS were read; how often rank() was done");
        x.roads();
        x.roads();
        x.rank();
        dueCounts(x, 2, 0, 2, 2, 2, 6, 2);
        BarredTurns none = new BarredTurns();
        none.rank();
        none.roads();
        dueCounts(none, 0, 0, 0, 0, 0, 0, 1);
        of("22: OUTSIDE");
        for (int what : new int[] {-1, 7, 8, LEAST_INT, GREATEST_INT}) {
            refused("count(" + what + ")", OUTSIDE, y -> y.count(what));
            CHECK.refused("count(" + what + ") of a new object", OUTSIDE, BarredTurns::new, y -> y.count(what));
        }
    }

    private static void digests() {
        of("23: 31 times h, and it (as longs, wrapping)");
        BarredTurns none = new BarredTurns();
        due("digest() of a new object", none.digest(), Check.digestOf(none, ""));
        BarredTurns one = Check.read("ab1");
        due("digest() of one ROAD", one.digest(), Check.digestOf(one, ""));
        BarredTurns x = worked();
        due("digest()", x.digest(), Check.digestOf(x, "gh1,hg9"));
        due("digest() again", x.digest(), Check.digestOf(x, "gh1,hg9"));
        x.blank();
        due("digest() of an empty page", x.digest(), Check.digestOf(x, ""));
        Check.write(x, LONGEST + "~");
        due("digest() of a full page", x.digest(), Check.digestOf(x, LONGEST + "~"));
    }
}
