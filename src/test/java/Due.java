import java.util.ArrayList;
import java.util.List;

/** What the tests share: answers compared with what is due, and objects compared as a whole. */
final class Due {
    interface Setup {
        LeggedThrough make();
    }

    interface Call {
        long on(LeggedThrough x);
    }

    private final String name;
    private int checks;
    private int wrong;

    Due(String name) {
        this.name = name;
    }

    void same(String what, long got, long want) {
        checks++;
        if (got != want) {
            wrong++;
            System.out.println(name + ": " + what + " answered " + got + ", due is " + want);
        }
    }

    void same(String what, Object got, Object want) {
        checks++;
        if (!got.equals(want)) {
            wrong++;
            System.out.println(name + ": " + what + " is " + got + ", due is " + want);
        }
    }

    /** The call has its answer and leaves all that the object holds as it is. */
    void still(String what, Setup setup, Call call, long want) {
        Setup called = () -> {
            LeggedThrough x = setup.make();
            call.on(x);
            return x;
        };
        same(what, call.on(setup.make()), want);
        same(what + ": all that is held", everything(called), everything(setup));
    }

    /** Ends the program: with 1, if an answer was not as due. */
    void end() {
        System.out.println(name + ": " + checks + " checks, " + wrong + " wrong");
        if (wrong != 0) {
            System.exit(1);
        }
    }

    static LeggedThrough told(String text) {
        LeggedThrough x = new LeggedThrough();
        tell(x, text);
        return x;
    }

    static void tell(LeggedThrough x, String text) {
        x.wipe();
        for (int i = 0; i < text.length(); i++) {
            x.write(text.charAt(i));
        }
    }

    static LeggedThrough made(String text) {
        LeggedThrough x = told(text);
        if (x.tunnel() < 0) {
            throw new IllegalStateException("no tunnel: " + text);
        }
        return x;
    }

    /**
     * All that an object holds, brought to light call by call; each part by an object of its own, since what
     * a call answers behind the 512th one is free.
     */
    static List<Long> everything(Setup setup) {
        List<Long> all = new ArrayList<>();
        addSeenAndActs(setup.make(), all);
        addSlots(setup.make(), all);
        addText(setup.make(), all);
        return all;
    }

    private static void addSeenAndActs(LeggedThrough x, List<Long> all) {
        for (int place = -1; place < 4; place++) {
            all.add((long) x.lives(place));
        }
        all.add(x.seed(0));
        addState(x, all);
        for (int i = 0; i < 15 && x.about(5) > 0; i++) {
            all.add((long) x.undo());
            addChanging(x, all);
        }
        all.add((long) x.undo());
    }

    private static void addSlots(LeggedThrough x, List<Long> all) {
        for (int slot = 0; slot < 2; slot++) {
            all.add((long) x.again(slot));
            addState(x, all);
        }
    }

    /** What THE TEXT tells, brought to its end, if it is only not at its end. */
    private static void addText(LeggedThrough x, List<Long> all) {
        for (int i = 0; i < 6 && x.fault() == x.about(7); i++) {
            all.add((long) x.write(x.about(7) == 0 ? 'L' : x.about(7) == 1 ? '1' : '0'));
        }
        all.add((long) x.fault());
        all.add((long) x.tunnel());
        addState(x, all);
    }

    private static void addState(LeggedThrough x, List<Long> all) {
        for (int what = 0; what < 8; what++) {
            all.add((long) x.about(what));
        }
        int boats = x.about(2);
        for (int boat = 0; boat < boats; boat++) {
            all.add((long) x.load(boat));
        }
        int leggers = x.about(1);
        for (int legger = 0; legger < leggers; legger++) {
            all.add((long) x.legger(legger, 4));
        }
        addChanging(x, all);
    }

    /** What ACTS can change. */
    private static void addChanging(LeggedThrough x, List<Long> all) {
        all.add((long) x.about(3));
        all.add((long) x.about(4));
        int leggers = x.about(1);
        for (int legger = 0; legger < leggers; legger++) {
            for (int place = 0; place < 4; place++) {
                all.add((long) x.legger(legger, place));
            }
            all.add((long) x.legger(legger, 5));
        }
    }
}
