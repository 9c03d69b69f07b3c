/** Promises 9 to 13: LEGGED, RESTED, WETTED, DRIED, undone. */
public final class ActsTest {
    private static final Due due = new Due("ActsTest");

    private static final int UNKNOWN = -1, BAD = -2, LATE = -3;

    public static void main(String[] args) {
        promise9Leg();
        promise9Refused();
        promise10Rest();
        promise11Wet();
        promise12Dry();
        promise13Undo();
        promise13EachAct();
        promise13FirstIsForgotten();
        due.end();
    }

    /** One STEP, all FLAT: a PAIR takes 1, and 1 more for each time the more TIRED one is. */
    private static LeggedThrough flat() {
        return Due.made("L1G00000G00000G00000B0B3B9");
    }

    private static LeggedThrough acted() {
        LeggedThrough x = Due.made("L3G00123G02021B4B5");
        x.wet(0, 0);
        x.leg(0, 0, 1);
        x.dry(1, 0);
        x.keep(1);
        return x;
    }

    private static void promise9Leg() {
        LeggedThrough x = flat();
        due.same("leg(1, 0, 1)", x.leg(1, 0, 1), 4);
        due.same("THROUGH", x.about(3), 2);
        due.same("TIRED", x.legger(0, 5) * 100 + x.legger(1, 5) * 10 + x.legger(2, 5), 110);
        due.same("leg(0, 2, 1)", x.leg(0, 2, 1), 6);
        due.same("THROUGH then", x.about(3), 3);
        due.same("leg(2, 2, 1)", x.leg(2, 2, 1), 18);
        due.same("ACTS", x.about(5), 3);
        due.same("three times TIRED", x.legger(1, 5), 3);
        LeggedThrough y = Due.made("L4G00123G11321B6");
        // 1 beside HILL 2 + 1, HILL 2 beside STAIRS 4, WET 1 beside WET 2, FLAT 1 beside HILL 3; three unlike, LOAD 6
        due.same("leg of unlike ones", y.leg(0, 1, 0), 3 + 4 + 2 + 3 + 3 + 6);
        threeTimesAtMost();
    }

    /** With undo out of the way only slots make a BOAT not THROUGH again, so a fourth leg needs a tunnel of three. */
    private static void threeTimesAtMost() {
        LeggedThrough x = flat();
        x.leg(0, 0, 1);
        x.leg(1, 0, 1);
        x.leg(2, 0, 1);
        due.same("TIRED three times", x.legger(0, 5), 3);
        // five days that are legged at least: 1, 2, 3, 4, 4, 4, .. MINUTES if TIRED is 3 at most
        LeggedThrough y = Due.made("L1G00000G00000B0");
        y.leg(0, 0, 1);
        long seed = seedOfLeggedDays(6);
        y.seed(seed);
        due.same("six days legged", y.days(6), 2 + 3 + 4 + 4 + 4 + 4);
    }

    /** The first SEED by which so many days on end are LEGGED. */
    private static long seedOfLeggedDays(int many) {
        for (long seed = 0; seed < 100_000_000L; seed++) {
            long x = seed;
            int day = 0;
            while (day < many) {
                x = x * 6364136223846793005L + 1442695040888963407L;
                if ((x >>> 33) % 20 < 16) {
                    break;
                }
                day++;
            }
            if (day == many) {
                return seed;
            }
        }
        throw new IllegalStateException("no seed");
    }

    private static void promise9Refused() {
        due.still("leg(2, 0, 1)", ActsTest::acted, o -> o.leg(2, 0, 1), UNKNOWN);
        due.still("leg(-1, 0, 1)", ActsTest::acted, o -> o.leg(-1, 0, 1), UNKNOWN);
        due.still("leg(1, 2, 1)", ActsTest::acted, o -> o.leg(1, 2, 1), UNKNOWN);
        due.still("leg(1, -1, 1)", ActsTest::acted, o -> o.leg(1, -1, 1), UNKNOWN);
        due.still("leg(1, 0, 2)", ActsTest::acted, o -> o.leg(1, 0, 2), UNKNOWN);
        due.still("leg(1, 0, -1)", ActsTest::acted, o -> o.leg(1, 0, -1), UNKNOWN);
        due.still("leg(1, 2, 2)", ActsTest::acted, o -> o.leg(1, 2, 2), UNKNOWN);
        due.still("leg(0, 0, 2)", ActsTest::acted, o -> o.leg(0, 0, 2), UNKNOWN);
        due.still("leg(1, 1, 1)", ActsTest::acted, o -> o.leg(1, 1, 1), BAD);
        due.still("leg(0, 1, 1)", ActsTest::acted, o -> o.leg(0, 1, 1), BAD);
        due.still("leg(0, 0, 1)", ActsTest::acted, o -> o.leg(0, 0, 1), LATE);
    }

    private static void promise10Rest() {
        LeggedThrough x = flat();
        x.leg(0, 0, 1);
        x.leg(1, 0, 2);
        due.same("rest(0)", x.rest(0), 1 + 2 + 3 + 5);
        due.same("not TIRED any more", x.legger(0, 5), 0);
        due.same("the others stay TIRED", x.legger(1, 5) * 10 + x.legger(2, 5), 11);
        due.same("rest(2)", x.rest(2), 16);
        due.same("ACTS", x.about(5), 4);
        due.same("THROUGH stays", x.about(3), 3);
        due.still("rest(2)", ActsTest::acted, o -> o.rest(2), UNKNOWN);
        due.still("rest(-1)", ActsTest::acted, o -> o.rest(-1), UNKNOWN);
        Due.Setup fresh = () -> {
            LeggedThrough y = acted();
            y.rest(1);
            return y;
        };
        due.still("rest of one that is not TIRED", fresh, o -> o.rest(1), LATE);
        due.still("rest of one that never was", ActsTest::flat, o -> o.rest(0), LATE);
    }

    private static void promise11Wet() {
        LeggedThrough x = Due.made("L3G00123G13021B4");
        due.same("wet(0, 0)", x.wet(0, 0), 0);
        due.same("wet(0, 1)", x.wet(0, 1), 1);
        due.same("wet(0, 3)", x.wet(0, 3), 3);
        due.same("wet(1, 1)", x.wet(1, 1), 0);
        due.same("the first LIFE", life(x, 0), 2222);
        due.same("the second LIFE", life(x, 1), 3221);
        due.same("ACTS", x.about(5), 4);
        due.same("THE CLOCK", x.about(4), 0);
        due.still("wet(2, 0)", ActsTest::acted, o -> o.wet(2, 0), UNKNOWN);
        due.still("wet(-1, 9)", ActsTest::acted, o -> o.wet(-1, 9), UNKNOWN);
        due.still("wet(1, 4)", ActsTest::acted, o -> o.wet(1, 4), BAD);
        due.still("wet(1, -1)", ActsTest::acted, o -> o.wet(1, -1), BAD);
        due.still("wet(0, 0)", ActsTest::acted, o -> o.wet(0, 0), LATE);
        due.still("wet(0, 2)", ActsTest::acted, o -> o.wet(0, 2), LATE);
    }

    private static int life(LeggedThrough x, int legger) {
        return 1000 * x.legger(legger, 0) + 100 * x.legger(legger, 1) + 10 * x.legger(legger, 2) + x.legger(legger, 3);
    }

    private static void promise12Dry() {
        LeggedThrough x = Due.made("L3G02222G12122B4");
        due.same("dry(0, 3)", x.dry(0, 3), 3);
        due.same("dry(0, 0)", x.dry(0, 0), 2);
        due.same("dry(1, 2)", x.dry(1, 2), 2);
        due.same("dry(1, 3)", x.dry(1, 3), 1);
        due.same("dry(1, 0)", x.dry(1, 0), 0);
        due.same("the first LIFE", life(x, 0), 220);
        due.same("the second LIFE", life(x, 1), 100);
        due.same("ACTS", x.about(5), 5);
        due.same("THE CLOCK", x.about(4), 0);
        due.still("dry(2, 0)", ActsTest::acted, o -> o.dry(2, 0), UNKNOWN);
        due.still("dry(-1, 4)", ActsTest::acted, o -> o.dry(-1, 4), UNKNOWN);
        due.still("dry(0, 4)", ActsTest::acted, o -> o.dry(0, 4), BAD);
        due.still("dry(0, -1)", ActsTest::acted, o -> o.dry(0, -1), BAD);
        due.still("dry(0, 1)", ActsTest::acted, o -> o.dry(0, 1), LATE);
        due.still("dry(1, 0)", ActsTest::acted, o -> o.dry(1, 0), LATE);
    }

    private static void promise13Undo() {
        due.still("undo()", ActsTest::flat, o -> o.undo(), LATE);
        due.still("undo() of a new one", LeggedThrough::new, o -> o.undo(), LATE);
        LeggedThrough x = flat();
        x.leg(0, 0, 1);
        x.rest(0);
        x.wet(2, 3);
        x.dry(2, 3);
        due.same("the dry one", x.undo() * 10 + x.legger(2, 3), 32);
        due.same("the wet one", x.undo() * 10 + x.legger(2, 3), 20);
        due.same("the rest", x.undo() * 100 + x.legger(0, 5) * 10 + x.about(4), 111);
        due.same("the leg", x.undo() * 100 + x.legger(0, 5) * 10 + x.about(4), 0);
        due.same("THROUGH", x.about(3), 0);
        due.same("none is left", x.undo(), LATE);
        due.same("leg once more", x.leg(0, 0, 1), 1);
        due.same("one is left", x.about(5), 1);
    }

    /** Each ACT undone leaves what was ahead of it, whoever was how TIRED and whatever was what. */
    private static void promise13EachAct() {
        Due.Setup tired = () -> {
            LeggedThrough x = Due.made("L5G00123G11321G22200B1B2B3");
            x.leg(0, 0, 1);
            x.leg(1, 0, 2);
            return x;
        };
        Due.Call[] acts = {o -> o.leg(2, 0, 2), o -> o.rest(0), o -> o.wet(0, 3), o -> o.dry(2, 0)};
        for (int i = 0; i < acts.length; i++) {
            Due.Call act = acts[i];
            due.still("ACT " + i + " undone", tired, o -> act.on(o) * 0 + o.undo(), 2);
        }
        Due.Setup worn = () -> {
            LeggedThrough x = tired.make();
            x.leg(2, 0, 2);
            return x;
        };
        due.still("rest of a worn one undone", worn, o -> o.rest(0) * 0 + o.undo(), 3);
    }

    private static void promise13FirstIsForgotten() {
        LeggedThrough x = flat();
        x.leg(0, 0, 1);
        int[] places = {0, 1, 2, 3};
        for (int legger = 0; legger < 3; legger++) {
            for (int place : places) {
                x.wet(legger, place);
            }
        }
        due.same("ACTS: 13", x.about(5), 13);
        x.rest(0);
        due.same("ACTS: 14", x.about(5), 14);
        x.rest(1);
        due.same("ACTS: 14 still", x.about(5), 14);
        for (int left = 13; left >= 0; left--) {
            due.same("undo()", x.undo(), left);
        }
        due.same("undo() at last", x.undo(), LATE);
        due.same("the leg was forgotten", x.about(3) * 10 + x.legger(0, 5), 11);
        due.same("all the others were not", life(x, 0) + life(x, 1) + life(x, 2), 0);
        for (int i = 0; i < 40; i++) {
            x.wet(0, i % 4);
            x.dry(0, i % 4);
        }
        x.wet(1, 2);
        due.same("undo() behind many", x.undo(), 13);
        due.same("the last one was undone", life(x, 1), 0);
    }
}
