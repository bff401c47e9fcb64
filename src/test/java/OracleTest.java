import java.util.Random;

/** Runs of calls by seeds, each answer held against that of the Oracle. */
public final class OracleTest {
    private static final int RUNS = 1500;
    private static final int CALLS = 400;

    private final Check check;
    private final int seed;
    private final Random random;
    private final BarredTurns x = new BarredTurns();
    private final Oracle o = new Oracle();

    private OracleTest(Check check, int seed) {
        this.check = check;
        this.seed = seed;
        this.random = new Random(seed);
    }

    public static void main(String[] args) {
        Check check = new Check("OracleTest");
        for (int seed = 0; seed < RUNS && check.isClean(); seed++) {
            new OracleTest(check, seed).run();
        }
        check.end();
    }

    private void run() {
        int places = 2 + random.nextInt(7);
        int most = random.nextInt(3) == 0 ? 3 : 99;
        int calls = 0;
        while (calls < CALLS) {
            if (calls == 0 || random.nextInt(12) == 0) {
                calls += writeAndRead(places, most);
            }
            for (int i = 0; i < 6; i++) {
                callAny();
                calls++;
            }
            if (random.nextInt(20) == 0) {
                compareAll();
            }
        }
        compareAll();
    }

    private int writeAndRead(int places, int most) {
        if (random.nextInt(3) != 0) {
            due("blank()", x.blank(), o.blank());
        }
        String text = text(places, most);
        for (int i = 0; i < text.length(); i++) {
            int code = text.charAt(i);
            due("letter(" + code + ")", x.letter(code), o.letter(code));
        }
        due("fault()", x.fault(), o.fault());
        due("roads() of " + text, x.roads(), o.roads());
        return text.length() + 2;
    }

    private String text(int places, int most) {
        StringBuilder text = new StringBuilder();
        int roads = random.nextInt(5) == 0 ? 12 + random.nextInt(2) : 1 + random.nextInt(12);
        for (int i = 0; i < roads; i++) {
            int begin = random.nextInt(places);
            int end = (begin + 1 + random.nextInt(places - 1)) % places;
            text.append(i == 0 ? "" : ",").append((char) ('a' + begin)).append((char) ('a' + end));
            text.append(1 + random.nextInt(most));
        }
        if (random.nextInt(5) == 0) {
            String some = "abhi019,, Z~";
            text.setCharAt(random.nextInt(text.length()), some.charAt(random.nextInt(some.length())));
        }
        if (random.nextInt(8) == 0) {
            text.setLength(random.nextInt(text.length() + 1));
        }
        return text.toString();
    }

    /** Mostly a road that there is; sometimes a number that names none. */
    private int anyRoad() {
        int n = o.count(0);
        if (random.nextInt(25) == 0 || n == 0) {
            int[] odd = {-1, n, 12, Integer.MIN_VALUE, Integer.MAX_VALUE, 144, -5};
            return odd[random.nextInt(odd.length)];
        }
        return random.nextInt(n);
    }

    private int any(int from, int to) {
        return from + random.nextInt(to - from + 1);
    }

    private void callAny() {
        int r = anyRoad();
        int s = anyRoad();
        switch (random.nextInt(22)) {
            case 0, 1 -> alterLength(r);
            case 2, 3, 4 -> alterTurn();
            case 5 -> due("rank()", x.rank(), o.rank());
            case 6 -> ask("road", r, any(-1, 6));
            case 7 -> due("cost(" + r + ", " + s + ")", x.cost(r, s), o.cost(r, s));
            case 8 -> due("order(" + r + ")", x.order(r), o.order(r));
            case 9 -> due("least(" + r + ", " + s + ")", x.least(r, s), o.least(r, s));
            case 10 -> askWay(r, s, any(-1, 13));
            case 11 -> askArc(r, s, any(-1, 4));
            case 12 -> askUnpacked(r, s, any(-1, 13));
            case 13 -> due("up(" + r + ", " + s + ")", x.up(r, s), o.up(r, s));
            case 14 -> due("down(" + r + ", " + s + ")", x.down(r, s), o.down(r, s));
            case 15 -> due("meet(" + r + ", " + s + ")", x.meet(r, s), o.meet(r, s));
            case 16 -> askRoute(any(-1, 8), any(-1, 8));
            case 17 -> askLoss(r, any(-2, 1001));
            case 18 -> ask("all", any(-1, 6), 0);
            case 19 -> ask("count", any(-1, 7), 0);
            case 20 -> ask("letter", any(30, 128), 0);
            default -> due("digest()", x.digest(), o.digest());
        }
    }

    private void alterLength(int road) {
        int v = random.nextInt(15) == 0 ? any(-1, 101) : any(1, random.nextBoolean() ? 4 : 99);
        due("stretch(" + road + ", " + v + ")", x.stretch(road, v), o.stretch(road, v));
    }

    private void alterTurn() {
        int r = anyRoad();
        int s = anyRoad();
        for (int i = 0; i < 20 && o.cost(r, s) == Oracle.STATE; i++) {
            s = anyRoad();
        }
        int v = random.nextInt(15) == 0 ? any(-8, 52) : random.nextInt(3) == 0 ? Oracle.BARRED : any(0, 50);
        due("turn(" + r + ", " + s + ", " + v + ")", x.turn(r, s, v), o.turn(r, s, v));
    }

    private void ask(String call, int a, int b) {
        switch (call) {
            case "road" -> due("road(" + a + ", " + b + ")", x.road(a, b), o.road(a, b));
            case "all" -> due("all(" + a + ")", x.all(a), o.all(a));
            case "count" -> due("count(" + a + ")", x.count(a), o.count(a));
            default -> due("letter(" + a + ")", x.letter(a), o.letter(a));
        }
    }

    private void askWay(int r, int s, int place) {
        due("way(" + r + ", " + s + ", " + place + ")", x.way(r, s, place), o.way(r, s, place));
    }

    private void askArc(int r, int s, int what) {
        due("arc(" + r + ", " + s + ", " + what + ")", x.arc(r, s, what), o.arc(r, s, what));
    }

    private void askUnpacked(int r, int s, int place) {
        due("unpacked(" + r + ", " + s + ", " + place + ")", x.unpacked(r, s, place), o.unpacked(r, s, place));
    }

    private void askRoute(int from, int to) {
        due("route(" + from + ", " + to + ")", x.route(from, to), o.route(from, to));
    }

    private void askLoss(int road, int n) {
        due("loss(" + road + ", " + n + ")", x.loss(road, n), o.loss(road, n));
    }

    /** All that can be asked of all roads. */
    private void compareAll() {
        int n = o.count(0);
        for (int r = 0; r < n; r++) {
            for (int what = 0; what <= 5; what++) {
                ask("road", r, what);
            }
            due("order(" + r + ")", x.order(r), o.order(r));
            askLoss(r, 100);
            for (int s = 0; s < n; s++) {
                due("cost(" + r + ", " + s + ")", x.cost(r, s), o.cost(r, s));
                due("least(" + r + ", " + s + ")", x.least(r, s), o.least(r, s));
                due("up(" + r + ", " + s + ")", x.up(r, s), o.up(r, s));
                due("down(" + r + ", " + s + ")", x.down(r, s), o.down(r, s));
                due("meet(" + r + ", " + s + ")", x.meet(r, s), o.meet(r, s));
                for (int i = 0; i <= 13; i++) {
                    askArc(r, s, i);
                    askWay(r, s, i);
                    askUnpacked(r, s, i);
                }
            }
        }
        for (int from = 0; from < 8; from++) {
            for (int to = 0; to < 8; to++) {
                askRoute(from, to);
            }
        }
        for (int what = -1; what <= 7; what++) {
            ask("all", what, 0);
            ask("count", what, 0);
        }
        due("digest()", x.digest(), o.digest());
    }

    private void due(String call, long got, long want) {
        check.due("seed " + seed + ": " + call, got, want);
    }
}
