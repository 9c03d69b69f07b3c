/** Promises 1 to 8: a new object, THE TEXT, THE TUNNEL. */
public final class TunnelTest {
    private static final Due due = new Due("TunnelTest");

    private static final int UNKNOWN = -1, BAD = -2, LATE = -3, FULL = -4, NONE = -9;

    public static void main(String[] args) {
        promise1NewObject();
        promise2Write();
        promise3Wipe();
        promise4Fault();
        promise4EachByte();
        promise5Tunnel();
        promise5MadeAnew();
        promise6About();
        promise7Legger();
        promise8Load();
        due.end();
    }

    private static void promise1NewObject() {
        int[] all = {1, 0, 0, 0, 0, 0, 0, 0};
        LeggedThrough x = new LeggedThrough();
        for (int what = 0; what < all.length; what++) {
            due.same("new: about(" + what + ")", x.about(what), all[what]);
        }
        due.same("new: legger(0, 0)", x.legger(0, 0), UNKNOWN);
        due.same("new: load(0)", x.load(0), UNKNOWN);
        due.same("new: undo()", x.undo(), LATE);
        due.same("new: again(0)", x.again(0), LATE);
        due.same("new: again(1)", x.again(1), LATE);
        due.same("new: lives(-1)", x.lives(-1), 256);
        due.same("new: seed(7)", x.seed(7), 0);
        due.same("new: fault()", x.fault(), 0);
        x.write('L');
        due.same("new: another one's text", new LeggedThrough().about(7), 0);
    }

    private static void promise2Write() {
        LeggedThrough x = new LeggedThrough();
        due.same("write(0)", x.write(0), 1);
        due.same("write(255)", x.write(255), 2);
        due.still("write(-1)", () -> Due.told("L1"), o -> o.write(-1), BAD);
        due.still("write(256)", () -> Due.told("L1"), o -> o.write(256), BAD);
        due.still("write(least)", () -> Due.told("L1"), o -> o.write(Integer.MIN_VALUE), BAD);
        for (int i = 3; i <= 40; i++) {
            due.same("write the byte " + i, x.write('0'), i);
        }
        due.same("write when full", x.write('0'), FULL);
        due.same("write a bad one when full", x.write(256), BAD);
        due.same("bytes when full", x.about(7), 40);
        String full = "L1" + "B".repeat(38);
        due.still("write(48) when full", () -> Due.told(full), o -> o.write(48), FULL);
        due.same("a byte is the byte that was told", Due.told("L1B" + (char) ('0' + 256)).about(7), 3);
    }

    private static void promise3Wipe() {
        LeggedThrough x = Due.told("L4G00");
        due.same("wipe()", x.wipe(), 5);
        due.same("wipe() again", x.wipe(), 0);
        due.same("bytes then", x.about(7), 0);
        due.same("fault then", x.fault(), 0);
        LeggedThrough y = Due.made("L2G00123B4");
        y.wipe();
        due.same("wipe leaves THE TUNNEL: STEPS", y.about(0), 2);
        due.same("wipe leaves THE TUNNEL: LEGGERS", y.about(1), 1);
        due.same("wipe leaves THE TUNNEL: LOAD", y.load(0), 4);
        LeggedThrough full = Due.told("X".repeat(40));
        due.same("wipe when full", full.wipe(), 40);
        due.same("write after that", full.write('L'), 1);
    }

    private static void fault(String text, int want) {
        due.same("fault of " + text, Due.told(text).fault(), want);
    }

    private static void promise4Fault() {
        fault("", 0);
        fault("L", 1);
        fault("L1", NONE);
        fault("L6", NONE);
        fault("L0", 1);
        fault("L7", 1);
        fault("l1", 0);
        fault("G00000", 0);
        fault("B1", 0);
        fault("1", 0);
        fault("L1L1", 2);
        fault("L1 ", 2);
        fault("L1g", 2);
        fault("L11", 2);
        fault("L1G", 3);
        fault("L1G0", 4);
        fault("L1G0000", 7);
        fault("L1G00000", NONE);
        fault("L1G33333", NONE);
        fault("L1G40000", 3);
        fault("L1G0000/", 7);
        fault("L1G00004", 7);
        fault("L1G04000", 4);
        fault("L1G000000", 8);
        fault("L1B", 3);
        fault("L1B0", NONE);
        fault("L1B9", NONE);
        fault("L1B:", 3);
        fault("L1B/", 3);
        fault("L1BG", 3);
        fault("L1B12", 4);
        fault("L1B1G00000B2G00000B3", NONE);
        fault("L1B1B1B1B", 8);
        fault("L1B1B1B1G", 9);
        fault("L1G00000G00000G00000G00000G", 26);
        fault("L1G00000G00000G00000G00000B", 27);
        fault("L6G01230G11230G21230G31230B1B2B3", NONE);
        fault("L6G01230G11230G21230G31230B1B2B3B", 32);
        fault("L6G01230G11230G21230G31230B1B2B3G", 32);
        fault("X".repeat(40), 0);
        fault("L1" + "X".repeat(38), 2);
        due.still("fault()", () -> Due.told("L1G0"), o -> o.fault(), 4);
    }

    /** Each byte behind each beginning: what the pattern can still be a beginning of, is no FAULT. */
    private static void promise4EachByte() {
        String whole = "L3G01230B5G10321B0G23333G30000B9";
        java.util.regex.Pattern pattern = java.util.regex.Pattern.compile("L[1-6](G[0-3]{5}|B[0-9])*");
        for (int length = 0; length < whole.length(); length++) {
            for (int letter = 0; letter < 256; letter++) {
                String text = whole.substring(0, length) + (char) letter;
                java.util.regex.Matcher matcher = pattern.matcher(text);
                boolean is = matcher.matches();
                boolean can = (is || matcher.hitEnd()) && many(text, 'G') <= 4 && many(text, 'B') <= 3;
                fault(text, !can ? length : is ? NONE : length + 1);
            }
        }
    }

    private static int many(String text, char letter) {
        return (int) text.chars().filter(c -> c == letter).count();
    }

    private static void promise5Tunnel() {
        due.same("tunnel of L1", Due.told("L1").tunnel(), 0);
        due.same("tunnel of four and three", Due.told("L6G01230B1G11230B2G21230B3G31230").tunnel(), 43);
        due.same("tunnel of boats", Due.told("L6B1B2").tunnel(), 2);
        due.same("tunnel of leggers", Due.told("L6G00000").tunnel(), 10);
        due.still("tunnel of nothing", LeggedThrough::new, o -> o.tunnel(), LATE);
        Due.Setup half = () -> {
            LeggedThrough x = acted();
            x.wipe();
            x.write('L');
            return x;
        };
        due.still("tunnel of a text that is not at its end", half, o -> o.tunnel(), LATE);
        Due.Setup wrong = () -> {
            LeggedThrough x = acted();
            x.write('X');
            return x;
        };
        due.still("tunnel of a text with a fault", wrong, o -> o.tunnel(), LATE);
        LeggedThrough x = Due.told("L5G01230B7G13210B8");
        x.tunnel();
        due.same("THE TEXT stays", x.about(7), 18);
        due.same("THE TEXT can be told on", x.write('B'), 19);
        due.same("no tunnel yet", x.tunnel(), LATE);
        x.write('9');
        due.same("THE TEXT told on", x.tunnel(), 23);
    }

    private static LeggedThrough acted() {
        LeggedThrough x = Due.made("L2G00123G00123B4B5");
        x.leg(0, 0, 1);
        x.wet(1, 1);
        x.keep(0);
        x.keep(1);
        x.rest(0);
        x.see(2, 1);
        x.seed(77);
        return x;
    }

    private static void promise5MadeAnew() {
        LeggedThrough x = acted();
        due.same("tunnel() anew", x.tunnel(), 22);
        due.same("anew: THROUGH", x.about(3), 0);
        due.same("anew: THE CLOCK", x.about(4), 0);
        due.same("anew: ACTS", x.about(5), 0);
        due.same("anew: undo", x.undo(), LATE);
        due.same("anew: TIRED", x.legger(1, 5), 0);
        due.same("anew: GROUND", x.legger(1, 1), 1);
        due.same("anew: the first slot", x.again(0), LATE);
        due.same("anew: the second slot", x.again(1), LATE);
        due.same("anew: SEEN stays", x.about(6), 1);
        due.same("anew: what is SEEN stays", x.lives(-1), Due.made("L1").lives(-1) - hiddenBySeen());
        due.same("anew: THE SEED stays", x.seed(0), 77);
        Due.tell(x, "L3");
        x.tunnel();
        due.same("nobody then", x.legger(0, 0), UNKNOWN);
        due.same("no BOAT then", x.load(0), UNKNOWN);
        Due.tell(x, "L3G13333B6");
        x.tunnel();
        Due.tell(x, "L3G22222B1");
        x.tunnel();
        due.same("nothing is left of another KIND", x.legger(0, 4), 2);
        due.same("nothing is left of another GROUND", x.legger(0, 3), 2);
        due.same("nothing is left of another LOAD", x.load(0), 1);
    }

    /** How many LIVES STEP 2 of 1 MINUTE rules out: those on a HILL or STAIRS then; on PLACE 2, 3, 3 or 0. */
    private static int hiddenBySeen() {
        int hidden = 0;
        for (int life = 0; life < 256; life++) {
            int[] ground = {life & 3, life >> 2 & 3, life >> 4 & 3, life >> 6 & 3};
            int second = ground[0] == 2 ? 2 : 1;
            int third = (second + (ground[second] == 2 ? 2 : 1)) % 4;
            hidden += ground[third] == 1 || ground[third] == 3 ? 1 : 0;
        }
        return hidden;
    }

    private static void promise6About() {
        LeggedThrough x = Due.made("L4G00123G10000G20000B1B2");
        x.leg(1, 0, 2);
        x.wet(1, 1);
        x.see(0, 1);
        x.see(0, 1);
        x.see(1, 1);
        x.write('B');
        int clock = x.about(4);
        // FLAT 1, HILL 2, WET 1, FLAT 1 beside FLAT all along, two times 1 for unlike GROUNDS, LOAD 2
        int[] all = {4, 3, 2, 2, 1 + 2 + 1 + 1 + 2 + 2, 2, 3, 25};
        for (int what = 0; what < all.length; what++) {
            due.same("about(" + what + ")", x.about(what), all[what]);
        }
        x.leg(0, 0, 1);
        due.same("both are THROUGH", x.about(3), 3);
        due.same("THE CLOCK goes on", x.about(4) > clock ? 1 : 0, 1);
        due.still("about(8)", TunnelTest::acted, o -> o.about(8), BAD);
        due.still("about(-1)", TunnelTest::acted, o -> o.about(-1), BAD);
        due.still("about(3)", TunnelTest::acted, o -> o.about(3), 1);
    }

    private static void promise7Legger() {
        LeggedThrough x = Due.made("L4G00123G13210G22222G31111B0B1B2");
        int[][] all = {{0, 1, 2, 3, 0}, {3, 2, 1, 0, 1}, {2, 2, 2, 2, 2}, {1, 1, 1, 1, 3}};
        for (int legger = 0; legger < 4; legger++) {
            for (int what = 0; what < 5; what++) {
                due.same("legger(" + legger + ", " + what + ")", x.legger(legger, what), all[legger][what]);
            }
            due.same("legger(" + legger + ", 5)", x.legger(legger, 5), 0);
        }
        x.leg(0, 3, 1);
        x.leg(1, 1, 0);
        due.same("once TIRED", x.legger(3, 5), 1);
        due.same("twice TIRED", x.legger(1, 5), 2);
        due.same("once TIRED as the other one", x.legger(0, 5), 1);
        due.same("not TIRED", x.legger(2, 5), 0);
        due.still("legger(2, 0)", TunnelTest::acted, o -> o.legger(2, 0), UNKNOWN);
        due.still("legger(-1, 0)", TunnelTest::acted, o -> o.legger(-1, 0), UNKNOWN);
        due.still("legger(2, 6)", TunnelTest::acted, o -> o.legger(2, 6), UNKNOWN);
        due.still("legger(0, 6)", TunnelTest::acted, o -> o.legger(0, 6), BAD);
        due.still("legger(1, -1)", TunnelTest::acted, o -> o.legger(1, -1), BAD);
        due.still("legger(1, 1)", TunnelTest::acted, o -> o.legger(1, 1), 2);
    }

    private static void promise8Load() {
        LeggedThrough x = Due.made("L4B9G00000B0B5");
        due.same("load(0)", x.load(0), 9);
        due.same("load(1)", x.load(1), 0);
        due.same("load(2)", x.load(2), 5);
        due.same("load(3)", x.load(3), UNKNOWN);
        due.still("load(2)", TunnelTest::acted, o -> o.load(2), UNKNOWN);
        due.still("load(-1)", TunnelTest::acted, o -> o.load(-1), UNKNOWN);
        due.still("load(least)", TunnelTest::acted, o -> o.load(Integer.MIN_VALUE), UNKNOWN);
        due.still("load(1)", TunnelTest::acted, o -> o.load(1), 5);
    }
}
