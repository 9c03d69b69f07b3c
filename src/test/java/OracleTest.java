import java.util.Random;

/** Promises 1 to 29: runs of as many calls as an object is used for, drawn by fixed seeds, answered as by the oracle. */
public final class OracleTest {
    private static final Due due = new Due("OracleTest");
    private static final int RUNS = 1000;
    /** A TEXT told and looked at takes no more calls than these. */
    private static final int DEAREST_DRAW = 90;

    private final Random random;
    private final Both both;

    private OracleTest(long seed) {
        random = new Random(seed);
        both = new Both(due, "run " + seed);
    }

    public static void main(String[] args) {
        for (int run = 0; run < RUNS; run++) {
            OracleTest test = new OracleTest(run);
            while (test.both.callsLeft() > DEAREST_DRAW) {
                test.anyCall();
            }
            test.both.look();
        }
        due.end();
    }

    /** Mostly a number that is asked for, now and then one beside it or far off. */
    private int some(int least, int most) {
        int drawn = random.nextInt(60);
        if (drawn == 0) {
            return least - 1;
        }
        if (drawn == 1) {
            return most + 1;
        }
        if (drawn == 2) {
            return random.nextInt();
        }
        return least + random.nextInt(most - least + 1);
    }

    private int boat() {
        return some(0, Math.max(0, both.about(2) - 1));
    }

    private int legger() {
        return some(0, Math.max(0, both.about(1) - 1));
    }

    private void anyCall() {
        if (random.nextInt(120) == 0 || both.about(2) == 0 && random.nextInt(3) == 0) {
            tellText();
            return;
        }
        switch (random.nextInt(4)) {
            case 0: textOrSlot(); break;
            case 1: act(); break;
            case 2: howLong(); break;
            default: seenOrChance(); break;
        }
    }

    private void tellText() {
        StringBuilder text = new StringBuilder("L").append(1 + random.nextInt(6));
        int leggers = random.nextInt(5);
        int boats = random.nextInt(4);
        while (leggers + boats > 0) {
            if (random.nextInt(leggers + boats) < boats) {
                boats--;
                text.append('B').append(random.nextInt(10));
            } else {
                leggers--;
                text.append('G');
                for (int i = 0; i < 5; i++) {
                    text.append(random.nextInt(4));
                }
            }
        }
        if (random.nextInt(5) == 0) {
            text.setCharAt(random.nextInt(text.length()), "LGB0123456789".charAt(random.nextInt(13)));
        }
        both.tell(text.toString());
        both.call("fault");
        both.call("tunnel");
    }

    private void textOrSlot() {
        switch (random.nextInt(10)) {
            case 0: both.call("write", random.nextInt(4) == 0 ? some(0, 255) : (int) "LGB0123".charAt(random.nextInt(7))); break;
            case 1: both.call("fault"); break;
            case 2: both.call("about", some(0, 7)); break;
            case 3: both.call("legger", legger(), some(0, 5)); break;
            case 4: both.call("load", boat()); break;
            case 5: both.call("keep", some(0, 1)); break;
            case 6: both.call("again", some(0, 1)); break;
            case 7: now(8, "tunnel"); break;
            case 8: now(3, "unsee"); break;
            default:
                if (random.nextInt(4) == 0) {
                    both.look();
                }
                break;
        }
    }

    /** A call that takes much away is made but once in a while. */
    private void now(int andThen, String call) {
        if (random.nextInt(andThen) == 0) {
            both.call(call);
        }
    }

    private void act() {
        switch (random.nextInt(7)) {
            case 0:
            case 1: both.call("leg", boat(), legger(), legger()); break;
            case 2: both.call("rest", legger()); break;
            case 3: both.call("wet", legger(), some(0, 3)); break;
            case 4: both.call("dry", legger(), some(0, 3)); break;
            default: both.call("undo"); break;
        }
    }

    private void howLong() {
        switch (random.nextInt(7)) {
            case 0: both.call("alone", legger(), some(0, 3)); break;
            case 1: both.call("time", boat(), legger(), legger(), some(0, 3), some(0, 3)); break;
            case 2: both.call("best", boat(), some(0, 1)); break;
            case 3: both.call("begin", boat(), legger(), legger(), some(0, 1)); break;
            case 4: both.call("soonest", random.nextBoolean()); break;
            case 5: judge(); break;
            default: both.call("share", legger(), boat(), random.nextBoolean()); break;
        }
    }

    private void judge() {
        int n = some(1, 3);
        int row = 0;
        for (int i = 0; i < n && i < 3; i++) {
            row = row * 1000 + 100 * random.nextInt(3) + 10 * random.nextInt(4) + random.nextInt(4);
        }
        both.call("judge", n, random.nextInt(10) == 0 ? some(0, 999999999) : row);
    }

    private void seenOrChance() {
        switch (random.nextInt(7)) {
            case 0: both.call("see", some(0, 5), some(1, 3)); break;
            case 1:
            case 2: both.call("lives", some(-1, 3)); break;
            case 3: both.call("rests", boat(), boat(), some(0, 1)); break;
            case 4: both.call("chance", legger(), random.nextBoolean() ? some(0, 60) : some(5, 20), some(0, 10), random.nextBoolean()); break;
            case 5: both.call("seed", random.nextBoolean() ? random.nextLong() : (long) random.nextInt(100)); break;
            default: both.call("days", random.nextInt(4) == 0 ? some(1, 30) : some(1, 5)); break;
        }
    }
}
