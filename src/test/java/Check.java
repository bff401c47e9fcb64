import java.math.BigInteger;
import java.util.ArrayList;
import java.util.List;
import java.util.function.Supplier;
import java.util.function.ToIntFunction;

/** What the tests of the project share: it prints each answer that is not as due, and counts them. */
final class Check {
    private final String test;
    private String sentence = "";
    private int done = 0;
    private int wrong = 0;

    Check(String test) {
        this.test = test;
    }

    /** Names the sentence of the document that the checks behind it hold to. */
    void of(String sentence) {
        this.sentence = sentence + ": ";
    }

    void due(String call, long got, long want) {
        done++;
        if (got != want) {
            wrong++;
            if (wrong <= 40) {
                System.out.println(test + ": " + sentence + call + " answered " + got + ", due is " + want);
            }
        }
    }

    void holds(String what, boolean holds) {
        due(what, holds ? 1 : 0, 1);
    }

    /** A refused call answers as due, and changes nothing: neither what can be asked, nor what comes of it later. */
    void refused(String call, int want, Supplier<BarredTurns> made, ToIntFunction<BarredTurns> refusedCall) {
        BarredTurns x = made.get();
        BarredTurns twin = made.get();
        String before = state(x);
        due(call, refusedCall.applyAsInt(x), want);
        holds(call + " changes nothing", state(x).equals(before));
        for (BarredTurns each : new BarredTurns[] {x, twin}) {
            each.rank();
            each.stretch(0, 42);
            each.roads();
        }
        holds(call + " changes nothing that comes later", state(x).equals(state(twin)));
    }

    /** What can be asked of an object, as a text. */
    static String state(BarredTurns x) {
        StringBuilder text = new StringBuilder().append(x.digest());
        int n = x.count(0);
        for (int r = 0; r < n; r++) {
            text.append(" | ").append(x.order(r));
            for (int s = 0; s < n; s++) {
                text.append(' ').append(x.cost(r, s));
            }
        }
        return text.append(" | ").append(x.fault()).toString();
    }

    boolean isClean() {
        return wrong == 0;
    }

    /** Ends the test, with exit code 1 if an answer was wrong. */
    void end() {
        System.out.println(test + ": " + done + " checks, " + wrong + " wrong");
        if (wrong != 0 || done == 0) {
            System.exit(1);
        }
    }

    static void write(BarredTurns x, String text) {
        for (int i = 0; i < text.length(); i++) {
            x.letter(text.charAt(i));
        }
    }

    /** A new object that has read the roads of a text. */
    static BarredTurns read(String text) {
        BarredTurns x = new BarredTurns();
        write(x, text);
        x.roads();
        return x;
    }

    /** Roads whose order is that of their numbers, with all turns barred. */
    static BarredTurns allBarred(String text) {
        BarredTurns x = read(text);
        int n = x.count(0);
        for (int r = 0; r < n; r++) {
            for (int s = 0; s < n; s++) {
                x.turn(r, s, BarredTurns.BARRED);
            }
        }
        x.rank();
        return x;
    }

    /** The digest of what the other calls answer, counted without bounds and wrapped once, at the end. */
    static long digestOf(BarredTurns x, String page) {
        BigInteger h = BigInteger.valueOf(1627);
        for (int number : numbersOf(x, page)) {
            h = h.multiply(BigInteger.valueOf(31)).add(BigInteger.valueOf(number));
        }
        return h.longValue();
    }

    private static List<Integer> numbersOf(BarredTurns x, String page) {
        List<Integer> numbers = new ArrayList<>();
        int n = x.count(0);
        for (int i = 0; i < n * 6; i++) {
            numbers.add(x.road(i / 6, i % 6));
        }
        for (int i = 0; i < n * n; i++) {
            int r = i / n;
            int s = i % n;
            numbers.addAll(List.of(x.least(r, s), x.up(r, s), x.down(r, s), x.meet(r, s)));
            numbers.addAll(List.of(x.arc(r, s, 0), x.arc(r, s, 1), x.arc(r, s, 2), x.arc(r, s, 3)));
        }
        for (int i = 0; i < 64; i++) {
            if (i / 8 != i % 8) {
                numbers.add(x.route(i / 8, i % 8));
            }
        }
        for (int r = 0; r < n; r++) {
            numbers.add(x.loss(r, 100));
        }
        for (int what = 0; what <= 5; what++) {
            numbers.add(x.all(what));
        }
        for (char code : page.toCharArray()) {
            numbers.add((int) code);
        }
        for (int what = 0; what <= 6; what++) {
            numbers.add(x.count(what));
        }
        return numbers;
    }
}
