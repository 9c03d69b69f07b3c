/** Promises 14 to 20: alone, TIME, BEST, BEGIN, SOONEST, JUDGED, SHARE. */
public final class HowLongTest {
    private static final Due due = new Due("HowLongTest");

    private static final int UNKNOWN = -1, BAD = -2, NONE = -9;

    public static void main(String[] args) {
        promise14Alone();
        promise14HalfWay();
        promise14Refused();
        promise15Time();
        promise15Refused();
        promise16Best();
        promise17Begin();
        promise18Soonest();
        promise18Rows();
        promise19Judge();
        promise19Refused();
        promise20Share();
        due.end();
    }

    private static LeggedThrough acted() {
        LeggedThrough x = Due.made("L3G00123G02021B4B5");
        x.leg(0, 0, 1);
        x.wet(0, 0);
        x.keep(0);
        x.see(3, 3);
        return x;
    }

    private static void alone(String text, int place, int want) {
        due.same("alone(0, " + place + ") in " + text, Due.made(text).alone(0, place), want);
    }

    private static void promise14Alone() {
        // the ways through FLAT, HILL, WET, STAIRS: from 0 and 2 the STAIRS are never walked
        int[] plain = {1 + 2 + 1 + 1 + 2 + 1, 2 + 1 + 1 + 2 + 1 + 1, 1 + 1 + 2 + 1 + 1 + 2, 3 + 1 + 2 + 1 + 1 + 2};
        int[] runaway = {6, 6, 6, 2 + 5};
        // half way (STEP 3) adds 2 wherever one is
        for (int place = 0; place < 4; place++) {
            alone("L6G00123", place, plain[place]);
            alone("L6G10123", place, plain[place] + 6);
            alone("L6G20123", place, runaway[place]);
            alone("L6G30123", place, plain[place] + 2);
        }
        alone("L1G00123", 3, 3);
        alone("L2G00123", 3, 4);
        // an old one sings in STEP 0 of 1, 1 of 2 and 3, 2 of 4 and 5, 3 of 6: once only
        for (int steps = 1; steps <= 6; steps++) {
            alone("L" + steps + "G30000", 0, steps + 2);
        }
        // behind a WET place 3 comes place 1
        alone("L2G03002", 3, 2);
        alone("L3G03102", 3, 1 + 2 + 1);
        LeggedThrough x = Due.made("L2G20000G10000G30000G01313B0B0B0");
        x.leg(0, 0, 1);
        due.same("a TIRED runaway", x.alone(0, 0), 4);
        due.same("a TIRED one from the fens", x.alone(1, 0), 6);
        x.leg(1, 0, 3);
        due.same("a twice TIRED runaway", x.alone(0, 1), 6);
        due.same("a TIRED plain one", x.alone(3, 1), 4 + 3);
        x.leg(2, 0, 2);
        due.same("a TIRED old one", x.alone(2, 2), 6);
        due.same("a three times TIRED runaway", x.alone(0, 2), 8);
        x.wet(0, 1);
        x.rest(0);
        due.same("RESTED", x.alone(0, 1), 2);
    }

    /** Beside one who is on STAIRS in that STEP alone, an old one's song costs nothing: so it tells where he sings. */
    private static void promise14HalfWay() {
        int[] halfWay = {0, 0, 1, 1, 2, 2, 3};
        for (int steps = 1; steps <= 6; steps++) {
            for (int place = 0; place < 4; place++) {
                char[] life = "0000".toCharArray();
                life[place] = '3';
                int visits = (steps + 3 - place) / 4;
                int sung = place == halfWay[steps] ? 0 : 2;
                LeggedThrough x = Due.made("L" + steps + "G30000G0" + new String(life) + "B0");
                due.same("an old one in " + steps + " STEPS beside STAIRS at " + place, x.time(0, 0, 1, 0, 0), steps + 3 * visits + sung);
            }
        }
    }

    private static void promise14Refused() {
        due.still("alone(2, 0)", HowLongTest::acted, o -> o.alone(2, 0), UNKNOWN);
        due.still("alone(-1, 7)", HowLongTest::acted, o -> o.alone(-1, 7), UNKNOWN);
        due.still("alone(0, 4)", HowLongTest::acted, o -> o.alone(0, 4), BAD);
        due.still("alone(0, -1)", HowLongTest::acted, o -> o.alone(0, -1), BAD);
        due.still("alone(0, 0)", HowLongTest::acted, o -> o.alone(0, 0), 2 + 2 + 2);
    }

    private static void promise15Time() {
        LeggedThrough x = Due.made("L3G00123G00123G10000B4B0");
        due.same("both alike", x.time(0, 0, 1, 0, 0), 1 + 2 + 1 + 4);
        due.same("from unlike PLACES", x.time(1, 0, 1, 0, 1), 3 + 3 + 2);
        due.same("the other way round", x.time(1, 1, 0, 1, 0), 3 + 3 + 2);
        due.same("one is always slower", x.time(1, 0, 2, 0, 3), 2 + 3 + 3);
        due.same("slower by turns", x.time(1, 2, 0, 1, 3), 4 + 2 + 3);
        due.same("the LOAD", x.time(0, 2, 0, 1, 3), 4 + 2 + 3 + 4);
        x.leg(0, 0, 1);
        due.same("TIRED", x.time(1, 0, 1, 0, 0), 1 + 2 + 1 + 3);
        due.same("one of them TIRED", x.time(1, 0, 2, 0, 0), 2 + 3 + 1 + 2 + 1);
        due.same("a BOAT that is THROUGH", x.time(0, 0, 1, 0, 0), 1 + 2 + 1 + 3 + 4);
        LeggedThrough y = Due.made("L2G30000G03333B1");
        due.same("the slower one of each STEP", y.time(0, 0, 1, 0, 0), 4 + 4 + 1);
        due.same("WET beside FLAT is unlike", Due.made("L1G02222G00000B0").time(0, 0, 1, 0, 0), 2);
        due.same("WET beside WET is like", Due.made("L1G02222G02222B0").time(0, 0, 1, 0, 0), 1);
    }

    private static void promise15Refused() {
        due.still("time(2, 0, 1, 0, 0)", HowLongTest::acted, o -> o.time(2, 0, 1, 0, 0), UNKNOWN);
        due.still("time(-1, 0, 1, 0, 0)", HowLongTest::acted, o -> o.time(-1, 0, 1, 0, 0), UNKNOWN);
        due.still("time(0, 2, 1, 0, 0)", HowLongTest::acted, o -> o.time(0, 2, 1, 0, 0), UNKNOWN);
        due.still("time(0, 0, 2, 0, 0)", HowLongTest::acted, o -> o.time(0, 0, 2, 0, 0), UNKNOWN);
        due.still("time(0, 2, 2, 0, 0)", HowLongTest::acted, o -> o.time(0, 2, 2, 0, 0), UNKNOWN);
        due.still("time(0, -1, 0, 9, 9)", HowLongTest::acted, o -> o.time(0, -1, 0, 9, 9), UNKNOWN);
        due.still("time(0, 0, 0, 0, 0)", HowLongTest::acted, o -> o.time(0, 0, 0, 0, 0), BAD);
        due.still("time(0, 0, 1, 4, 0)", HowLongTest::acted, o -> o.time(0, 0, 1, 4, 0), BAD);
        due.still("time(0, 0, 1, -1, 0)", HowLongTest::acted, o -> o.time(0, 0, 1, -1, 0), BAD);
        due.still("time(0, 0, 1, 0, 4)", HowLongTest::acted, o -> o.time(0, 0, 1, 0, 4), BAD);
        due.still("time(0, 0, 1, 0, -1)", HowLongTest::acted, o -> o.time(0, 0, 1, 0, -1), BAD);
        due.still("time(1, 0, 1, 3, 3)", HowLongTest::acted, o -> o.time(1, 0, 1, 3, 3), 4 + 1 + 2 + 2 + 5);
    }

    private static void best(LeggedThrough x, int boat, int which, int minutes) {
        due.same("best(" + boat + ", 0)", x.best(boat, 0), which);
        due.same("best(" + boat + ", 1)", x.best(boat, 1), minutes);
    }

    private static void promise16Best() {
        best(Due.made("L1G00000G00000G00000B2"), 0, 1, 3);
        best(Due.made("L1G03000G00000G00000B0B9"), 1, 12, 10);
        best(Due.made("L1G00000G03000G00000B0"), 0, 2, 1);
        best(Due.made("L1G03000G03000G00000G00000B0"), 0, 23, 1);
        best(Due.made("L1G00000G03000G03000G00000B0"), 0, 3, 1);
        best(Due.made("L1G03000G00000G03000G00000B0"), 0, 13, 1);
        LeggedThrough x = Due.made("L2G00000G00000G00000G00000B0B1");
        x.leg(0, 0, 1);
        best(x, 1, 23, 3);
        best(x, 0, 23, 2);
        x.wet(2, 0);
        best(x, 1, 23, 4);
        x.wet(2, 2);
        best(x, 1, 1, 5);
        due.still("best(2, 0)", HowLongTest::acted, o -> o.best(2, 0), UNKNOWN);
        due.still("best(-1, 7)", HowLongTest::acted, o -> o.best(-1, 7), UNKNOWN);
        due.still("best(0, 2)", HowLongTest::acted, o -> o.best(0, 2), BAD);
        due.still("best(0, -1)", HowLongTest::acted, o -> o.best(0, -1), BAD);
        due.still("best(1, 0)", HowLongTest::acted, o -> o.best(1, 0), 1);
        LeggedThrough lone = Due.made("L2G00000B0");
        due.same("best of one", lone.best(0, 0), NONE);
        due.same("best of one: how long", lone.best(0, 1), NONE);
        due.same("best of one: bad", lone.best(0, 2), BAD);
        due.same("best of nobody", Due.made("L2B0").best(0, 1), NONE);
    }

    private static void begin(LeggedThrough x, int one, int other, int places, int minutes) {
        due.same("begin(0, " + one + ", " + other + ", 0)", x.begin(0, one, other, 0), places);
        due.same("begin(0, " + one + ", " + other + ", 1)", x.begin(0, one, other, 1), minutes);
    }

    private static void promise17Begin() {
        begin(Due.made("L6G00000G10000B3"), 0, 1, 0, 12 + 3);
        LeggedThrough x = Due.made("L1G03310G03333G01013B5");
        begin(x, 0, 1, 0, 3 + 5);
        begin(x, 0, 2, 31, 1 + 5);
        begin(x, 2, 0, 13, 1 + 5);
        begin(x, 1, 2, 3, 3 + 5);
        LeggedThrough y = Due.made("L2G03311G03311B0");
        begin(y, 0, 1, 22, 4);
        y.leg(0, 0, 1);
        begin(y, 0, 1, 22, 6);
        due.still("begin(2, 0, 1, 0)", HowLongTest::acted, o -> o.begin(2, 0, 1, 0), UNKNOWN);
        due.still("begin(-1, 0, 0, 0)", HowLongTest::acted, o -> o.begin(-1, 0, 0, 0), UNKNOWN);
        due.still("begin(0, 2, 1, 0)", HowLongTest::acted, o -> o.begin(0, 2, 1, 0), UNKNOWN);
        due.still("begin(0, 0, 2, 7)", HowLongTest::acted, o -> o.begin(0, 0, 2, 7), UNKNOWN);
        due.still("begin(0, 1, 1, 0)", HowLongTest::acted, o -> o.begin(0, 1, 1, 0), BAD);
        due.still("begin(0, 0, 1, 2)", HowLongTest::acted, o -> o.begin(0, 0, 1, 2), BAD);
        due.still("begin(0, 0, 1, -1)", HowLongTest::acted, o -> o.begin(0, 0, 1, -1), BAD);
        due.still("begin(1, 1, 0, 0)", HowLongTest::acted, o -> o.begin(1, 1, 0, 0), 0);
    }

    private static void soonest(LeggedThrough x, int later, int row) {
        due.same("soonest(false)", x.soonest(false), later);
        due.same("soonest(true)", x.soonest(true), row);
    }

    private static void promise18Soonest() {
        soonest(Due.made("L1G00000G00000B5"), 6, 1);
        soonest(Due.made("L1G03000G00000G00000B5"), 6, 12);
        // a fresh pair for each; and a third pair is once TIRED, whenever it comes
        soonest(Due.made("L1G00000G00000G00000G00000B2B3"), 2 + 5, 1123);
        soonest(Due.made("L1G00000G00000G00000G00000B0B0B0"), 4, 1101223);
        soonest(Due.made("L1G00000G00000B9B0B0"), 1 + 2 + 3 + 9, 1101201);
        soonest(Due.made("L6G00000G00000B0B0B0"), 6 + 12 + 18, 1101201);
        LeggedThrough x = Due.made("L1G00000G00000G00000G00000B2B3B4");
        x.leg(1, 1, 2);
        soonest(x, 1 + 2 + 2 + 4, 3201);
        x.leg(0, 0, 3);
        soonest(x, 2 + 4, 201);
        x.leg(2, 0, 3);
        soonest(x, 0, 0);
        x.undo();
        soonest(x, 2 + 4, 201);
        x.rest(1);
        x.rest(2);
        soonest(x, 1 + 4, 212);
        soonest(Due.made("L3"), 0, 0);
        soonest(Due.made("L3G00000G00000"), 0, 0);
        soonest(Due.made("L3B0"), NONE, NONE);
        soonest(Due.made("L3G00000B0B2"), NONE, NONE);
        soonest(new LeggedThrough(), 0, 0);
        due.still("soonest(false)", HowLongTest::acted, o -> o.soonest(false), 2 + 2 + 2 + 5);
        due.still("soonest(true)", HowLongTest::acted, o -> o.soonest(true), 101);
    }

    /** The row has the BOATS in the order in which they are legged, and it takes as long as it is told to. */
    private static void promise18Rows() {
        LeggedThrough x = Due.made("L4G00123G11321G22020G31111B7B1B4");
        int later = x.soonest(false);
        int row = x.soonest(true);
        due.same("the row can be", x.judge(3, row), NONE);
        int clock = 0;
        for (int part = 1000000; part > 0; part /= 1000) {
            int leg = row / part % 1000;
            clock = x.leg(leg / 100, leg / 10 % 10, leg % 10);
        }
        due.same("the row legged", clock, later);
    }

    private static void promise19Judge() {
        LeggedThrough x = Due.made("L2G00000G00000G00000B0B1B2");
        due.same("judge(1, 1)", x.judge(1, 1), NONE);
        due.same("judge(1, 10)", x.judge(1, 10), NONE);
        due.same("judge(1, 221)", x.judge(1, 221), NONE);
        due.same("judge(3, 221112001)", x.judge(3, 221112001), NONE);
        due.same("judge(3, 1112202)", x.judge(3, 1112202), NONE);
        due.same("no such BOAT", x.judge(1, 301), 0);
        due.same("no such LEGGER", x.judge(1, 31), 0);
        due.same("no such other LEGGER", x.judge(1, 13), 0);
        due.same("both are one", x.judge(1, 11), 0);
        due.same("all nines", x.judge(3, 999999999), 0);
        due.same("the second", x.judge(2, 1301), 1);
        due.same("the second again", x.judge(2, 1122), 1);
        due.same("one behind itself", x.judge(2, 1001), 1);
        due.same("the third behind the first", x.judge(3, 1101012), 2);
        due.same("the third behind the second", x.judge(3, 1101112), 2);
        due.same("the first and the second", x.judge(3, 333333333), 0);
        due.same("a row of noughts", x.judge(2, 0), 0);
        x.leg(1, 0, 1);
        due.same("it is THROUGH", x.judge(1, 102), 0);
        due.same("it is THROUGH: the second", x.judge(2, 1102), 1);
        due.same("the others are not", x.judge(2, 1212), NONE);
        x.undo();
        due.same("not THROUGH any more", x.judge(1, 102), NONE);
        due.same("nobody", new LeggedThrough().judge(1, 1), 0);
    }

    private static void promise19Refused() {
        due.still("judge(0, 1)", HowLongTest::acted, o -> o.judge(0, 1), BAD);
        due.still("judge(0, 0)", HowLongTest::acted, o -> o.judge(0, 0), BAD);
        due.still("judge(-1, 1)", HowLongTest::acted, o -> o.judge(-1, 1), BAD);
        due.still("judge(4, 1)", HowLongTest::acted, o -> o.judge(4, 1), BAD);
        due.still("judge(greatest, 1)", HowLongTest::acted, o -> o.judge(Integer.MAX_VALUE, 1), BAD);
        due.still("judge(1, -1)", HowLongTest::acted, o -> o.judge(1, -1), BAD);
        due.still("judge(3, least)", HowLongTest::acted, o -> o.judge(3, Integer.MIN_VALUE), BAD);
        due.still("judge(1, 1000)", HowLongTest::acted, o -> o.judge(1, 1000), BAD);
        due.still("judge(1, 999)", HowLongTest::acted, o -> o.judge(1, 999), 0);
        due.still("judge(2, 1000000)", HowLongTest::acted, o -> o.judge(2, 1000000), BAD);
        due.still("judge(2, 999999)", HowLongTest::acted, o -> o.judge(2, 999999), 0);
        due.still("judge(3, 1000000000)", HowLongTest::acted, o -> o.judge(3, 1000000000), BAD);
        due.still("judge(3, greatest)", HowLongTest::acted, o -> o.judge(3, Integer.MAX_VALUE), BAD);
        due.still("judge(3, 999999999)", HowLongTest::acted, o -> o.judge(3, 999999999), 0);
        due.still("judge(1, 101)", HowLongTest::acted, o -> o.judge(1, 101), NONE);
    }

    private static void share(LeggedThrough x, int legger, int boat, int above, int below) {
        due.same("share(" + legger + ", " + boat + ", true)", x.share(legger, boat, true), above);
        due.same("share(" + legger + ", " + boat + ", false)", x.share(legger, boat, false), below);
    }

    private static void promise20Share() {
        share(Due.made("L1G00000B0"), 0, 0, 0, 1);
        LeggedThrough two = Due.made("L1G00000G00000B0B9");
        share(two, 0, 0, 199, 2);
        share(two, 1, 1, 95, 1);
        LeggedThrough three = Due.made("L1G03000G00000G00000B0");
        // with the one of STAIRS 200 - 4, without 200 - 1
        share(three, 0, 0, 196, 3);
        share(three, 1, 0, 401, 6);
        share(three, 2, 0, 401, 6);
        LeggedThrough four = Due.made("L1G00000G00000G00000G00000B3");
        share(four, 2, 0, 49, 1);
        // 0 and 1 take 4, 0 and 2 take 6, 1 and 2 take 5
        LeggedThrough unlike = Due.made("L2G00000G00100G01100B0");
        share(unlike, 0, 0, 196, 3);
        share(unlike, 1, 0, 395, 6);
        share(unlike, 2, 0, 389, 6);
        two.leg(0, 0, 1);
        share(two, 0, 0, 99, 1);
        share(two, 1, 1, 189, 2);
        due.still("share(2, 0, true)", HowLongTest::acted, o -> o.share(2, 0, true), UNKNOWN);
        due.still("share(-1, 0, false)", HowLongTest::acted, o -> o.share(-1, 0, false), UNKNOWN);
        due.still("share(0, 2, true)", HowLongTest::acted, o -> o.share(0, 2, true), UNKNOWN);
        due.still("share(0, -1, false)", HowLongTest::acted, o -> o.share(0, -1, false), UNKNOWN);
        due.still("share(1, 0, false)", HowLongTest::acted, o -> o.share(1, 0, true), 95);
    }
}
