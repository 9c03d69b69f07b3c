/** Promises 24 to 27: RESTS, CHANCE, THE SEED, DAYS. */
public final class ChancesTest {
    private static final Due due = new Due("ChancesTest");

    private static final int UNKNOWN = -1, BAD = -2;

    public static void main(String[] args) {
        promise24Rests();
        promise25Chance();
        promise25InSum();
        promise25Refused();
        promise26Seed();
        promise27OneDay();
        promise27WettedThenLegged();
        promise27TiredByTheRow();
        promise27ManyDays();
        promise27Refused();
        due.end();
    }

    private static LeggedThrough acted() {
        LeggedThrough x = Due.made("L3G00123G02021B4B5");
        x.leg(0, 0, 1);
        x.keep(0);
        x.wet(0, 0);
        x.keep(1);
        x.rest(0);
        x.see(3, 3);
        x.seed(12345);
        return x;
    }

    private static void promise24Rests() {
        LeggedThrough x = Due.made("L1B0B9B4");
        int[][] pairs = {{0, 1}, {1, 0}, {0, 2}, {2, 1}};
        for (int[] pair : pairs) {
            // 0 beside 1: the one that waits not at all loses nothing, the other one 1 more than its LOAD
            due.same("rests: how many", x.rests(pair[0], pair[1], 0), 2);
            due.same("rests: the first", x.rests(pair[0], pair[1], 1), 1);
        }
        Due.Setup acted = ChancesTest::acted;
        due.still("rests(2, 0, 0)", acted, o -> o.rests(2, 0, 0), UNKNOWN);
        due.still("rests(-1, -1, 9)", acted, o -> o.rests(-1, -1, 9), UNKNOWN);
        due.still("rests(0, 2, 5)", acted, o -> o.rests(0, 2, 5), UNKNOWN);
        due.still("rests(2, 2, 0)", acted, o -> o.rests(2, 2, 0), UNKNOWN);
        due.still("rests(0, 0, 0)", acted, o -> o.rests(0, 0, 0), BAD);
        due.still("rests(0, 1, 2)", acted, o -> o.rests(0, 1, 2), BAD);
        due.still("rests(0, 1, -1)", acted, o -> o.rests(0, 1, -1), BAD);
        due.still("rests(1, 0, 0)", acted, o -> o.rests(1, 0, 0), 2);
    }

    private static void chance(LeggedThrough x, int t, int tenths, int above, int below) {
        due.same("chance(0, " + t + ", " + tenths + ", true)", x.chance(0, t, tenths, true), above);
        due.same("chance(0, " + t + ", " + tenths + ", false)", x.chance(0, t, tenths, false), below);
    }

    private static void promise25Chance() {
        // FLAT 1, then HILL 2 or, if it slips, STAIRS 3
        LeggedThrough x = Due.made("L2G00130G00000B0");
        chance(x, 0, 3, 0, 1);
        chance(x, 2, 3, 0, 1);
        chance(x, 3, 3, 7, 10);
        chance(x, 4, 3, 1, 1);
        chance(x, 60, 3, 1, 1);
        chance(x, 3, 0, 1, 1);
        chance(x, 3, 10, 0, 1);
        chance(x, 3, 5, 1, 2);
        chance(x, 3, 8, 1, 5);
        x.leg(0, 0, 1);
        chance(x, 4, 3, 0, 1);
        chance(x, 5, 3, 7, 10);
        // a WET PLACE is slipped behind for sure
        LeggedThrough y = Due.made("L2G02130");
        chance(y, 3, 0, 0, 1);
        chance(y, 4, 0, 1, 1);
        chance(y, 4, 10, 1, 1);
        chance(Due.made("L2G10130"), 5, 3, 7, 10);
        chance(Due.made("L2G20130"), 2, 3, 7, 10);
        chance(Due.made("L2G30130"), 5, 3, 7, 10);
        // half way, in STEP 1 of 3: 1, then 2 + 2 at place 1 or 3 + 2 at place 2, then STEP 2
        LeggedThrough z = Due.made("L3G30130");
        chance(z, 6, 1, 9, 100);
        chance(z, 7, 1, 19, 100);
        chance(z, 8, 1, 1, 1);
    }

    /** The more MINUTES, the more ways; at last it is all of them. */
    private static void promise25InSum() {
        LeggedThrough x = Due.made("L6G00131");
        long before = 0;
        for (int t = 0; t <= 60; t++) {
            long above = x.chance(0, t, 3, true);
            long below = x.chance(0, t, 3, false);
            due.same("below divides a million", 1000000 % below, 0);
            long ways = above * (1000000 / below);
            due.same("ways grow with t", ways >= before ? 1 : 0, 1);
            before = ways;
        }
        due.same("all ways", before, 1000000);
        due.same("six STEPS take 6 at least", x.chance(0, 5, 3, true), 0);
    }

    private static void promise25Refused() {
        Due.Setup acted = ChancesTest::acted;
        due.still("chance(2, 0, 0)", acted, o -> o.chance(2, 0, 0, true), UNKNOWN);
        due.still("chance(-1, 99, 99)", acted, o -> o.chance(-1, 99, 99, true), UNKNOWN);
        due.still("chance(0, -1, 0)", acted, o -> o.chance(0, -1, 0, true), BAD);
        due.still("chance(0, 61, 0)", acted, o -> o.chance(0, 61, 0, false), BAD);
        due.still("chance(0, 0, -1)", acted, o -> o.chance(0, 0, -1, true), BAD);
        due.still("chance(0, 0, 11)", acted, o -> o.chance(0, 0, 11, false), BAD);
        due.still("chance(0, 60, 10)", acted, o -> o.chance(0, 60, 10, true), 1);
        due.still("chance(0, 0, 0)", acted, o -> o.chance(0, 0, 0, false), 1);
    }

    private static void promise26Seed() {
        LeggedThrough x = new LeggedThrough();
        due.same("seed(5)", x.seed(5), 0);
        due.same("seed(least)", x.seed(Long.MIN_VALUE), 5);
        due.same("seed(greatest)", x.seed(Long.MAX_VALUE), Long.MIN_VALUE);
        due.same("seed(0)", x.seed(0), Long.MAX_VALUE);
        x.days(1);
        due.same("THE SEED behind one day", x.seed(1), 1442695040888963407L);
        x.days(2);
        long one = 6364136223846793005L + 1442695040888963407L;
        due.same("THE SEED behind two days", x.seed(0), one * 6364136223846793005L + 1442695040888963407L);
        due.still("seed and back", ChancesTest::acted, o -> o.seed(9) * 0 + o.seed(12345), 9);
    }

    /** What is left of the upper 31 bits of what THE SEED becomes, by 20. */
    private static int sort(long becomes) {
        return new java.math.BigInteger(Long.toUnsignedString(becomes)).shiftRight(33).intValueExact() % 20;
    }

    private static long becomes(long seed) {
        return seed * 6364136223846793005L + 1442695040888963407L;
    }

    /** The first SEED by which the days on end are of these sorts. */
    private static long seedOf(int... sorts) {
        for (long seed = -3; seed < 100_000_000L; seed++) {
            long x = seed;
            int day = 0;
            while (day < sorts.length) {
                x = becomes(x);
                if (sort(x) != sorts[day]) {
                    break;
                }
                day++;
            }
            if (day == sorts.length) {
                return seed;
            }
        }
        throw new IllegalStateException("no seed");
    }

    private static void promise27OneDay() {
        for (int sort = 0; sort < 20; sort++) {
            long seed = seedOf(sort);
            LeggedThrough x = Due.made("L2G00123G11321B4B5");
            int all = x.soonest(false);
            x.leg(1, 0, 1);
            x.rest(0);
            x.rest(1);
            x.seed(seed);
            due.same("a day of sort " + sort, x.days(1), sort < 16 ? 0 : all);
            due.same("THE SEED then", x.seed(0), becomes(seed));
        }
        LeggedThrough lone = Due.made("L2G00123B4");
        lone.seed(seedOf(16, 17));
        due.same("no two to leg", lone.days(2), 0);
        LeggedThrough boatless = Due.made("L2G00123G00123");
        boatless.seed(seedOf(18, 19));
        due.same("no BOAT to be legged", boatless.days(2), 0);
    }

    private static void promise27WettedThenLegged() {
        for (int place = 0; place < 4; place++) {
            for (int legger = 0; legger < 4; legger++) {
                LeggedThrough x = Due.made("L5G03130G10121B4G21031B0");
                LeggedThrough twin = Due.made("L5G03130G10121B4G21031B0");
                twin.wet(legger, place);
                x.seed(seedOf(4 * place + legger, 16));
                due.same("WETTED " + legger + " at " + place, x.days(2), twin.soonest(false));
                due.same("GROUND is as it was", x.legger(legger, place), Due.made("L5G03130G10121B4G21031B0").legger(legger, place));
                LeggedThrough behind = Due.made("L5G03130G10121B4G21031B0");
                behind.seed(seedOf(16, 4 * place + legger));
                due.same("WETTED too late", behind.days(2), behind.soonest(false));
            }
        }
    }

    /** Who is TIRED by a day's legging, is so the next day, just as the row told it. */
    private static void promise27TiredByTheRow() {
        // 1 and 2 by 0 and 1, who then are twice TIRED: 3 and 3 the next day
        LeggedThrough two = Due.made("L1G00000G00000G00000B0B0");
        two.seed(seedOf(16, 17));
        due.same("two BOATS, three LEGGERS, two days", two.days(2), 1 + 2 + 3 + 3);
        // 1, 2 by 0 and 1, 1 by 2 and 3; then 3 by 0 and 1, 2 and 3 by 2 and 3; then all are worn
        String text = "L1G00000G00000G00000G00000B0B0B0";
        int[] all = {0, 4, 4 + 8, 4 + 8 + 12};
        for (int m = 1; m <= 3; m++) {
            LeggedThrough three = Due.made(text);
            three.leg(2, 0, 1);
            three.rest(0);
            three.rest(1);
            three.seed(seedOf(19, 18, 16));
            due.same("three BOATS, four LEGGERS, days: " + m, three.days(m), all[m]);
        }
        // the fast ones are 1 and 2: twice they leg, by row 12 and 112, and are twice TIRED
        LeggedThrough fast = Due.made("L1G03333G00000G00000B0B0");
        fast.seed(seedOf(16, 16));
        due.same("the fast ones are TIRED", fast.days(2), 1 + 2 + 3 + 4);
    }

    /** Two LEGGERS over one STEP that is FLAT or WET: told by hand from day to day. */
    private static void promise27ManyDays() {
        for (long seed = 0; seed < 40; seed++) {
            for (int m = 1; m <= 30; m++) {
                LeggedThrough x = Due.made("L1G00000G00000B3");
                x.seed(seed);
                int clock = 0;
                int tired = 0;
                boolean[] wet = new boolean[4];
                long now = seed;
                for (int day = 0; day < m; day++) {
                    now = becomes(now);
                    int sort = sort(now);
                    if (sort >= 16) {
                        clock += 1 + tired + (wet[0] == wet[1] ? 0 : 1) + 3;
                        tired = Math.min(3, tired + 1);
                    } else if (sort < 4) {
                        wet[sort] = true;
                    }
                }
                due.same("days(" + m + ") by " + seed, x.days(m), clock);
                due.same("THE SEED then", x.seed(0), now);
            }
        }
    }

    private static void promise27Refused() {
        Due.Setup acted = ChancesTest::acted;
        due.still("days(0)", acted, o -> o.days(0), BAD);
        due.still("days(-1)", acted, o -> o.days(-1), BAD);
        due.still("days(31)", acted, o -> o.days(31), BAD);
        due.still("days(greatest)", acted, o -> o.days(Integer.MAX_VALUE), BAD);
        long[] seeds = {seedOf(16), seedOf(3), seedOf(7, 18, 2, 19)};
        for (long seed : seeds) {
            due.still("nothing changes but THE SEED", acted, o -> o.seed(seed) * 0 + o.days(30) * 0 + o.seed(12345) * 0, 0);
        }
    }
}
