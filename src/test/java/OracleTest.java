import java.util.Random;

/** Promises 1 to 29: runs of 500 calls, drawn by fixed seeds, each answered as by the oracle. */
public final class OracleTest {
    private static final Due due = new Due("OracleTest");
    private static final int RUNS = 300, CALLS = 500;

    private final Random random;
    private final LeggedThrough x = new LeggedThrough();
    private final Oracle y = new Oracle();

    private OracleTest(long seed) {
        random = new Random(seed);
    }

    public static void main(String[] args) {
        for (int run = 0; run < RUNS; run++) {
            OracleTest test = new OracleTest(run);
            for (int call = 0; call < CALLS; call++) {
                test.anyCall("run " + run + ", call " + call + ": ");
            }
        }
        due.end();
    }

    /** Mostly a number that is asked for, now and then one beside it or far off. */
    private int some(int least, int most) {
        int drawn = random.nextInt(60);
        if (drawn == 0) {
            return least - 1;
        }
        if (drawn == 1) {
            return most + 1;
        }
        if (drawn == 2) {
            return random.nextInt();
        }
        return least + random.nextInt(most - least + 1);
    }

    private int boat() {
        return some(0, Math.max(0, y.about(2) - 1));
    }

    private int legger() {
        return some(0, Math.max(0, y.about(1) - 1));
    }

    private void anyCall(String at) {
        if (random.nextInt(60) == 0 || y.about(2) == 0 && random.nextInt(3) == 0) {
            tellText(at);
            return;
        }
        switch (random.nextInt(4)) {
            case 0: textOrSlot(at); break;
            case 1: act(at); break;
            case 2: howLong(at); break;
            default: seenOrChance(at); break;
        }
    }

    private void tellText(String at) {
        StringBuilder text = new StringBuilder("L").append(1 + random.nextInt(6));
        int leggers = random.nextInt(5);
        int boats = random.nextInt(4);
        while (leggers + boats > 0) {
            if (random.nextInt(leggers + boats) < boats) {
                boats--;
                text.append('B').append(random.nextInt(10));
            } else {
                leggers--;
                text.append('G');
                for (int i = 0; i < 5; i++) {
                    text.append(random.nextInt(4));
                }
            }
        }
        if (random.nextInt(5) == 0) {
            text.setCharAt(random.nextInt(text.length()), "LGB0123456789"
                    .charAt(random.nextInt(13)));
        }
        due.same(at + "wipe", x.wipe(), y.wipe());
        for (int i = 0; i < text.length(); i++) {
            due.same(at + "write", x.write(text.charAt(i)), y.write(text.charAt(i)));
        }
        due.same(at + "fault of " + text, x.fault(), y.fault());
        due.same(at + "tunnel of " + text, x.tunnel(), y.tunnel());
    }

    private void textOrSlot(String at) {
        int a = some(0, 7);
        int slot = some(0, 1);
        int b = some(0, 5);
        int c = legger();
        switch (random.nextInt(9)) {
            case 0: {
                int letter = random.nextInt(4) == 0 ? some(0, 255) : "LGB0123".charAt(random.nextInt(7));
                due.same(at + "write(" + letter + ")", x.write(letter), y.write(letter));
                break;
            }
            case 1: due.same(at + "fault", x.fault(), y.fault()); break;
            case 2: due.same(at + "about(" + a + ")", x.about(a), y.about(a)); break;
            case 3: due.same(at + "legger(" + c + ", " + b + ")", x.legger(c, b), y.legger(c, b)); break;
            case 4: {
                int boat = boat();
                due.same(at + "load(" + boat + ")", x.load(boat), y.load(boat));
                break;
            }
            case 5: due.same(at + "keep(" + slot + ")", x.keep(slot), y.keep(slot)); break;
            case 6: due.same(at + "again(" + slot + ")", x.again(slot), y.again(slot)); break;
            case 7:
                if (random.nextInt(8) == 0) {
                    due.same(at + "tunnel", x.tunnel(), y.tunnel());
                }
                break;
            default: everyGround(at); break;
        }
    }

    private void everyGround(String at) {
        for (int legger = 0; legger < y.about(1); legger++) {
            for (int what = 0; what < 6; what++) {
                due.same(at + "legger(" + legger + ", " + what + ")", x.legger(legger, what), y.legger(legger, what));
            }
        }
        for (int what = 0; what < 8; what++) {
            due.same(at + "about(" + what + ")", x.about(what), y.about(what));
        }
    }

    private void act(String at) {
        int boat = boat();
        int one = legger();
        int other = legger();
        int place = some(0, 3);
        switch (random.nextInt(7)) {
            case 0:
            case 1: due.same(at + "leg(" + boat + ", " + one + ", " + other + ")", x.leg(boat, one, other), y.leg(boat, one, other)); break;
            case 2: due.same(at + "rest(" + one + ")", x.rest(one), y.rest(one)); break;
            case 3: due.same(at + "wet(" + one + ", " + place + ")", x.wet(one, place), y.wet(one, place)); break;
            case 4: due.same(at + "dry(" + one + ", " + place + ")", x.dry(one, place), y.dry(one, place)); break;
            default: due.same(at + "undo", x.undo(), y.undo()); break;
        }
    }

    private void howLong(String at) {
        int boat = boat();
        int one = legger();
        int other = legger();
        int p = some(0, 3);
        int q = some(0, 3);
        int what = some(0, 1);
        boolean which = random.nextBoolean();
        String pair = boat + ", " + one + ", " + other;
        switch (random.nextInt(7)) {
            case 0: due.same(at + "alone(" + one + ", " + p + ")", x.alone(one, p), y.alone(one, p)); break;
            case 1: due.same(at + "time(" + pair + ", " + p + ", " + q + ")", x.time(boat, one, other, p, q), y.time(boat, one, other, p, q)); break;
            case 2: due.same(at + "best(" + boat + ", " + what + ")", x.best(boat, what), y.best(boat, what)); break;
            case 3: due.same(at + "begin(" + pair + ", " + what + ")", x.begin(boat, one, other, what), y.begin(boat, one, other, what)); break;
            case 4: due.same(at + "soonest(" + which + ")", x.soonest(which), y.soonest(which)); break;
            case 5: judge(at); break;
            default: due.same(at + "share(" + one + ", " + boat + ", " + which + ")", x.share(one, boat, which), y.share(one, boat, which)); break;
        }
    }

    private void judge(String at) {
        int n = some(1, 3);
        int row = 0;
        for (int i = 0; i < n && i < 3; i++) {
            row = row * 1000 + 100 * random.nextInt(3) + 10 * random.nextInt(4) + random.nextInt(4);
        }
        if (random.nextInt(10) == 0) {
            row = some(0, 999999999);
        }
        due.same(at + "judge(" + n + ", " + row + ")", x.judge(n, row), y.judge(n, row));
    }

    private void seenOrChance(String at) {
        int a = some(0, 5);
        int minutes = some(1, 3);
        int place = some(-1, 3);
        int what = some(0, 1);
        boolean upper = random.nextBoolean();
        switch (random.nextInt(8)) {
            case 0: due.same(at + "see(" + a + ", " + minutes + ")", x.see(a, minutes), y.see(a, minutes)); break;
            case 1:
            case 2: due.same(at + "lives(" + place + ")", x.lives(place), y.lives(place)); break;
            case 3:
                if (random.nextInt(3) == 0) {
                    due.same(at + "unsee", x.unsee(), y.unsee());
                }
                break;
            case 4: {
                int boat = boat();
                int other = boat();
                due.same(at + "rests(" + boat + ", " + other + ", " + what + ")", x.rests(boat, other, what), y.rests(boat, other, what));
                break;
            }
            case 5: {
                int one = legger();
                int t = random.nextBoolean() ? some(0, 60) : some(5, 20);
                int tenths = some(0, 10);
                due.same(at + "chance(" + one + ", " + t + ", " + tenths + ", " + upper + ")",
                        x.chance(one, t, tenths, upper), y.chance(one, t, tenths, upper));
                break;
            }
            case 6: {
                long v = random.nextBoolean() ? random.nextLong() : random.nextInt(100);
                due.same(at + "seed(" + v + ")", x.seed(v), y.seed(v));
                break;
            }
            default: {
                int m = random.nextInt(4) == 0 ? some(1, 30) : some(1, 5);
                due.same(at + "days(" + m + ")", x.days(m), y.days(m));
                break;
            }
        }
    }
}
