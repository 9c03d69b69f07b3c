import java.util.ArrayList;
import java.util.List;
import java.util.Set;

/**
 * Promises 2 to 29: each call with all numbers about the edges of what it may be told, told together in each way,
 * on objects that are new, empty, half full, full; answered, and leaving things, as the oracle does.
 */
public final class EdgesTest {
    private static final Due due = new Due("EdgesTest");
    /** What a look at an object and the making of one take at most. */
    private static final int SPARED_CALLS = 150;

    private static final long[] LEGGERS = about(0, 3), BOATS = about(0, 2), PLACES = about(0, 3), SLOTS = about(0, 1);
    private static final long[] BOTH = {0, 1};
    private static final long[] ROWS = {Integer.MIN_VALUE, -1, 0, 1, 10, 12, 21, 32, 101, 111, 112, 201, 301, 999, 1000, 1001,
        1101, 1102, 10112, 201101, 999999, 1000000, 1001012, 1102203, 1112223, 101201001, 221112001, 999999999, 1000000000,
        Integer.MAX_VALUE};

    /** How an object of each sort is made. */
    private static final String[] OBJECTS = {
        "",
        "tell L1/tunnel",
        "tell L6B0B9/tunnel/keep 1/seed -1",
        "tell L2G31111B9/tunnel/keep 0/see 5 3/wet 0 0",
        "tell L5G02323G33210/tunnel/see 0 1/see 0 1/dry 0 2/tell L1G0",
        "tell L3B4G10123B0G22031/tunnel/wet 1 0/leg 1 1 0/keep 1/rest 1/dry 0 2/see 1 3/seed 29563/tell L7",
        "tell L6G01230G11032G23333G32222B9B0B5/tunnel/keep 0/keep 1/write 0/seed 3329",
        // full: of ACTS, SEEN, bytes, all THROUGH and worn
        "tell L4G01230G11032G23333G32222B9B0B5/tunnel/wet 0 0/wet 0 1/wet 0 3/wet 1 0/wet 1 1/wet 1 2/wet 2 0/wet 2 1/wet 2 2"
            + "/wet 2 3/dry 3 0/leg 2 0 1/leg 0 0 1/leg 1 1 0/dry 3 1/keep 1/see 0 1/see 1 2/see 2 3/see 3 1/see 4 1/see 5 2"
            + "/seed 89/tell BBBBBBBBBBBBBBBBBBBBBBBBBBBBBBBBBBBBBBBB",
    };

    /** Each call, and all that it is told in each of its places. */
    private record Sweep(String call, long[]... told) {
    }

    private static final Sweep[] SWEEPS = {
        new Sweep("write", new long[] {Integer.MIN_VALUE, -1, 0, 1, '0', '1', 'G', 'L', 127, 128, 254, 255, 256, Integer.MAX_VALUE}),
        new Sweep("wipe"),
        new Sweep("fault"),
        new Sweep("tunnel"),
        new Sweep("about", about(0, 7)),
        new Sweep("legger", LEGGERS, about(0, 5)),
        new Sweep("load", BOATS),
        new Sweep("leg", BOATS, LEGGERS, LEGGERS),
        new Sweep("rest", LEGGERS),
        new Sweep("wet", LEGGERS, PLACES),
        new Sweep("dry", LEGGERS, PLACES),
        new Sweep("undo"),
        new Sweep("alone", LEGGERS, PLACES),
        new Sweep("time", BOATS, LEGGERS, LEGGERS, PLACES, PLACES),
        new Sweep("best", BOATS, about(0, 1)),
        new Sweep("begin", BOATS, LEGGERS, LEGGERS, about(0, 1)),
        new Sweep("soonest", BOTH),
        new Sweep("judge", about(1, 3), ROWS),
        new Sweep("share", LEGGERS, BOATS, BOTH),
        new Sweep("see", about(0, 5), about(1, 3)),
        new Sweep("unsee"),
        new Sweep("lives", about(-1, 3)),
        new Sweep("rests", BOATS, BOATS, about(0, 1)),
        new Sweep("chance", LEGGERS, new long[] {Integer.MIN_VALUE, -1, 0, 1, 5, 6, 7, 10, 14, 20, 59, 60, 61, Integer.MAX_VALUE},
            about(0, 10), BOTH),
        new Sweep("seed", new long[] {Long.MIN_VALUE, -1, 0, 1, Long.MAX_VALUE}),
        new Sweep("days", about(1, 30)),
        new Sweep("keep", SLOTS),
        new Sweep("again", SLOTS),
    };

    private static final Set<String> CHANGING = Set.of("write", "wipe", "tunnel", "leg", "rest", "wet", "dry", "undo", "see",
        "unsee", "seed", "days", "keep", "again");

    public static void main(String[] args) {
        for (String object : OBJECTS) {
            for (Sweep sweep : SWEEPS) {
                if (CHANGING.contains(sweep.call())) {
                    eachByItself(object, sweep);
                } else {
                    oneBehindAnother(object, sweep);
                }
            }
        }
        due.same("calls swept", SWEEPS.length, 28);
        due.end();
    }

    /** All from the least to the most that may be told, those beside them, and those farthest off. */
    private static long[] about(int least, int most) {
        List<Long> all = new ArrayList<>(List.of((long) Integer.MIN_VALUE, (long) Integer.MAX_VALUE));
        for (long i = least - 1; i <= most + 1; i++) {
            all.add(i);
        }
        return all.stream().mapToLong(i -> i).toArray();
    }

    private static void eachByItself(String object, Sweep sweep) {
        for (Object[] told : toldInEachWay(sweep)) {
            Both both = made(object);
            both.call(sweep.call(), told);
            both.look();
            for (int i = 0; i < 15; i++) {
                both.call("undo");
            }
            both.look();
            both.call("again", 0);
            both.call("again", 1);
            both.look();
            both.call("seed", 0L);
        }
    }

    private static void oneBehindAnother(String object, Sweep sweep) {
        Both both = made(object);
        for (Object[] told : toldInEachWay(sweep)) {
            if (both.callsLeft() <= SPARED_CALLS) {
                both.look();
                both = made(object);
            }
            both.call(sweep.call(), told);
        }
        both.look();
    }

    private static Both made(String object) {
        Both both = new Both(due, "object of " + object);
        for (String row : object.split("/")) {
            String[] words = row.split(" ");
            if (words[0].equals("tell")) {
                both.tell(words[1]);
            } else if (!words[0].isEmpty()) {
                Object[] told = new Object[words.length - 1];
                for (int i = 0; i < told.length; i++) {
                    told[i] = asTold(words[0], i, Long.parseLong(words[i + 1]));
                }
                both.call(words[0], told);
            }
        }
        return both;
    }

    private static List<Object[]> toldInEachWay(Sweep sweep) {
        List<Object[]> all = new ArrayList<>();
        all.add(new Object[0]);
        for (int at = 0; at < sweep.told().length; at++) {
            List<Object[]> longer = new ArrayList<>();
            for (Object[] told : all) {
                for (long more : sweep.told()[at]) {
                    Object[] then = java.util.Arrays.copyOf(told, at + 1);
                    then[at] = asTold(sweep.call(), at, more);
                    longer.add(then);
                }
            }
            all = longer;
        }
        return all;
    }

    /** The number as the call wants it: an int, a long or a boolean. */
    private static Object asTold(String call, int at, long number) {
        Class<?> type = Both.method(call).getParameterTypes()[at];
        if (type == boolean.class) {
            return number != 0;
        }
        return type == long.class ? (Object) number : (Object) (int) number;
    }
}
