/** Promises 21 to 23: SEEN and LIVES. */
public final class SeenTest {
    private static final Due due = new Due("SeenTest");

    private static final int BAD = -2, FULL = -4;

    public static void main(String[] args) {
        promise21See();
        promise22Unsee();
        promise23Lives();
        promise23ByWalking();
        due.end();
    }

    private static LeggedThrough seen() {
        LeggedThrough x = Due.made("L2G00123G10123B4");
        x.leg(0, 0, 1);
        x.see(0, 2);
        x.see(2, 1);
        return x;
    }

    private static LeggedThrough full() {
        LeggedThrough x = seen();
        for (int i = 0; i < 4; i++) {
            x.see(5, 1);
        }
        return x;
    }

    private static void promise21See() {
        LeggedThrough x = new LeggedThrough();
        due.same("see(0, 1)", x.see(0, 1), 1);
        due.same("see(0, 1) again", x.see(0, 1), 2);
        due.same("see(5, 3)", x.see(5, 3), 3);
        due.same("see(3, 2)", x.see(3, 2), 4);
        due.same("see(1, 1)", x.see(1, 1), 5);
        due.same("see(2, 1)", x.see(2, 1), 6);
        due.same("see when full", x.see(4, 1), FULL);
        due.same("see a bad step when full", x.see(6, 1), BAD);
        due.same("see bad minutes when full", x.see(4, 0), BAD);
        due.same("SEEN", x.about(6), 6);
        due.still("see(6, 1)", SeenTest::seen, o -> o.see(6, 1), BAD);
        due.still("see(-1, 1)", SeenTest::seen, o -> o.see(-1, 1), BAD);
        due.still("see(0, 0)", SeenTest::seen, o -> o.see(0, 0), BAD);
        due.still("see(0, 4)", SeenTest::seen, o -> o.see(0, 4), BAD);
        due.still("see(1, -1)", SeenTest::seen, o -> o.see(1, -1), BAD);
        due.still("see when full", SeenTest::full, o -> o.see(0, 1), FULL);
        due.still("see what was SEEN when full", SeenTest::full, o -> o.see(0, 2), FULL);
        LeggedThrough y = seen();
        int acts = y.about(5);
        y.see(1, 1);
        due.same("SEEN is no ACT", y.about(5), acts);
    }

    private static void promise22Unsee() {
        LeggedThrough x = full();
        due.same("unsee()", x.unsee(), 6);
        due.same("unsee() again", x.unsee(), 0);
        due.same("SEEN", x.about(6), 0);
        due.same("LIVES", x.lives(-1), 256);
        due.same("see", x.see(0, 3), 1);
        due.same("LIVES then", x.lives(-1), 64);
        due.same("unsee one", x.unsee(), 1);
    }

    private static void lives(LeggedThrough x, int many, int first, int second, int third, int fourth) {
        int[] all = {many, first, second, third, fourth};
        for (int place = -1; place < 4; place++) {
            due.same("lives(" + place + ")", x.lives(place), all[place + 1]);
        }
    }

    private static void promise23Lives() {
        LeggedThrough x = new LeggedThrough();
        lives(x, 256, 15, 15, 15, 15);
        x.see(0, 1);
        lives(x, 128, 5, 15, 15, 15);
        // STEP 1 is over place 1 behind a FLAT place, over place 2 behind a WET one
        x.see(1, 3);
        lives(x, 32, 5, 15, 15, 15);
        // STAIRS at place 1 then lead to place 2, STAIRS at place 2 lead to place 3
        x.see(2, 2);
        lives(x, 8, 5, 15, 10, 15);
        x.see(0, 2);
        lives(x, 0, 0, 0, 0, 0);
        LeggedThrough y = new LeggedThrough();
        y.see(0, 2);
        y.see(1, 1);
        lives(y, 32, 2, 5, 15, 15);
        y.see(0, 2);
        lives(y, 32, 2, 5, 15, 15);
        LeggedThrough z = Due.made("L1G22222G10000B0B0");
        z.leg(0, 0, 1);
        z.see(4, 3);
        int many = z.lives(-1);
        z.unsee();
        Due.tell(z, "L6");
        z.tunnel();
        z.see(4, 3);
        due.same("LIVES have nothing to do with THE TUNNEL", z.lives(-1), many);
        due.still("lives(4)", SeenTest::seen, o -> o.lives(4), BAD);
        due.still("lives(-2)", SeenTest::seen, o -> o.lives(-2), BAD);
        due.still("lives(least)", SeenTest::seen, o -> o.lives(Integer.MIN_VALUE), BAD);
        due.still("lives(-1)", SeenTest::seen, o -> o.lives(-1), 32);
        due.still("lives(0)", SeenTest::seen, o -> o.lives(0), 2);
    }

    /** Each LIFE, walked as a tunnel of its own, tells what is SEEN; it is among those that may be. */
    private static void promise23ByWalking() {
        for (int life = 0; life < 256; life++) {
            String told = "" + (life & 3) + (life >> 2 & 3) + (life >> 4 & 3) + (life >> 6 & 3);
            LeggedThrough x = new LeggedThrough();
            int before = 0;
            for (int step = 0; step < 6; step++) {
                int all = Due.made("L" + (step + 1) + "G0" + told).alone(0, 0);
                x.see(step, all - before);
                before = all;
            }
            for (int place = 0; place < 4; place++) {
                int ground = told.charAt(place) - '0';
                due.same("LIFE " + told + " may be at " + place, x.lives(place) >> ground & 1, 1);
            }
            int many = x.lives(-1);
            due.same("LIFE " + told + " is one of some", many >= 1 && many <= 64 ? 1 : 0, 1);
        }
    }
}
