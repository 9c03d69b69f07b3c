/** Promises 28 and 29: kept, and gone on from. */
public final class SlotsTest {
    private static final Due due = new Due("SlotsTest");

    private static final int UNKNOWN = -1, LATE = -3;

    public static void main(String[] args) {
        promise28Keep();
        promise29Again();
        promise29Refused();
        due.end();
    }

    private static LeggedThrough acted() {
        LeggedThrough x = Due.made("L3G00123G02021B4B5");
        x.leg(0, 0, 1);
        x.wet(0, 0);
        x.rest(0);
        x.keep(1);
        x.dry(1, 2);
        return x;
    }

    private static void promise28Keep() {
        LeggedThrough x = Due.made("L1G00000G00000B4B5");
        due.same("keep(0)", x.keep(0), 0);
        x.leg(0, 0, 1);
        due.same("keep(1)", x.keep(1), 5);
        due.same("keep is no ACT, and forgets none", x.about(5), 1);
        x.rest(0);
        due.same("keep(0) anew", x.keep(0), 10);
        due.same("again(0) is the later one", x.again(0), 10);
        due.same("again(1) is its own", x.again(1), 5);
        due.same("a new object keeps", new LeggedThrough().keep(1), 0);
        due.still("keep(2)", SlotsTest::acted, o -> o.keep(2), UNKNOWN);
        due.still("keep(-1)", SlotsTest::acted, o -> o.keep(-1), UNKNOWN);
        due.still("keep(greatest)", SlotsTest::acted, o -> o.keep(Integer.MAX_VALUE), UNKNOWN);
    }

    private static void promise29Again() {
        LeggedThrough x = Due.made("L3G00123G02021B4B5");
        x.leg(1, 0, 1);
        x.wet(0, 3);
        int clock = x.keep(1);
        x.leg(0, 0, 1);
        x.rest(1);
        x.dry(0, 3);
        x.wet(1, 1);
        x.see(1, 2);
        x.seed(8);
        x.write('B');
        due.same("again(1)", x.again(1), clock);
        due.same("THE CLOCK", x.about(4), clock);
        due.same("THROUGH", x.about(3), 2);
        due.same("TIRED", x.legger(0, 5) * 10 + x.legger(1, 5), 11);
        due.same("the first LIFE", x.legger(0, 3), 2);
        due.same("the second LIFE", x.legger(1, 1), 0);
        due.same("no ACTS", x.about(5), 0);
        due.same("undo()", x.undo(), LATE);
        due.same("SEEN stays", x.about(6), 1);
        due.same("THE SEED stays", x.seed(0), 8);
        due.same("THE TEXT stays", x.about(7), 19);
        x.wet(0, 0);
        due.same("again(1) once more", x.again(1), clock);
        due.same("what came behind is gone", x.legger(0, 0), 0);
        x.wet(0, 0);
        due.same("undo() behind it", x.undo(), 0);
    }

    private static void promise29Refused() {
        due.still("again(0)", SlotsTest::acted, o -> o.again(0), LATE);
        due.still("again(2)", SlotsTest::acted, o -> o.again(2), UNKNOWN);
        due.still("again(-1)", SlotsTest::acted, o -> o.again(-1), UNKNOWN);
        due.still("again(least)", SlotsTest::acted, o -> o.again(Integer.MIN_VALUE), UNKNOWN);
        due.same("again(1) of a new object", new LeggedThrough().again(1), LATE);
    }
}
