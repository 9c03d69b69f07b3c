import java.math.BigInteger;
import java.util.ArrayList;
import java.util.List;

/**
 * The document once more, in the plainest way there is (whole copies, all orders, all ways walked),
 * so that a fault of the program's shorter ways shows as an unlike answer.
 */
final class Oracle {
    private static final int UNKNOWN = -1, BAD = -2, LATE = -3, FULL = -4, NONE = -9;

    private static final class World {
        List<int[]> lives = new ArrayList<>();
        List<Integer> tired = new ArrayList<>();
        List<Boolean> through = new ArrayList<>();
        int clock;

        World copy() {
            World w = new World();
            for (int[] life : lives) {
                w.lives.add(life.clone());
            }
            w.tired.addAll(tired);
            w.through.addAll(through);
            w.clock = clock;
            return w;
        }
    }

    private String text = "";
    private int steps = 1;
    private List<Integer> kinds = new ArrayList<>();
    private List<Integer> loads = new ArrayList<>();
    private World world = new World();
    private final List<World> acts = new ArrayList<>();
    private final World[] slots = new World[2];
    private final List<int[]> seen = new ArrayList<>();
    private long seed;

    // ---- the tunnel

    int write(int letter) {
        if (letter < 0 || letter > 255) {
            return BAD;
        }
        if (text.length() == 40) {
            return FULL;
        }
        text += (char) letter;
        return text.length();
    }

    int wipe() {
        int was = text.length();
        text = "";
        return was;
    }

    int fault() {
        java.util.regex.Pattern pattern = java.util.regex.Pattern.compile("L[1-6](G[0-3]{5}|B[0-9])*");
        for (int end = 0; end <= text.length(); end++) {
            String part = text.substring(0, end);
            java.util.regex.Matcher matcher = pattern.matcher(part);
            boolean can = matcher.matches() || matcher.hitEnd();
            if (!can || part.replaceAll("[^G]", "").length() > 4 || part.replaceAll("[^B]", "").length() > 3) {
                return end - 1;
            }
        }
        return pattern.matcher(text).matches() ? NONE : text.length();
    }

    int tunnel() {
        if (fault() != NONE) {
            return LATE;
        }
        steps = text.charAt(1) - '0';
        kinds = new ArrayList<>();
        loads = new ArrayList<>();
        world = new World();
        for (String part : text.substring(2).split("(?=[GB])")) {
            if (part.startsWith("G")) {
                kinds.add(part.charAt(1) - '0');
                world.lives.add(part.substring(2).chars().map(c -> c - '0').toArray());
                world.tired.add(0);
            } else if (part.startsWith("B")) {
                loads.add(part.charAt(1) - '0');
                world.through.add(false);
            }
        }
        acts.clear();
        slots[0] = null;
        slots[1] = null;
        return 10 * kinds.size() + loads.size();
    }

    int about(int what) {
        int through = 0;
        for (int boat = 0; boat < loads.size(); boat++) {
            through += world.through.get(boat) ? (int) Math.pow(2, boat) : 0;
        }
        int[] all = {steps, kinds.size(), loads.size(), through, world.clock, acts.size(), seen.size(), text.length()};
        return what < 0 || what > 7 ? BAD : all[what];
    }

    int legger(int legger, int what) {
        if (noLegger(legger)) {
            return UNKNOWN;
        }
        if (what < 0 || what > 5) {
            return BAD;
        }
        return what == 5 ? world.tired.get(legger) : what == 4 ? kinds.get(legger) : world.lives.get(legger)[what];
    }

    int load(int boat) {
        return noBoat(boat) ? UNKNOWN : loads.get(boat);
    }

    private boolean noLegger(int legger) {
        return legger < 0 || legger >= kinds.size();
    }

    private boolean noBoat(int boat) {
        return boat < 0 || boat >= loads.size();
    }

    // ---- acts

    private void act() {
        acts.add(world.copy());
        if (acts.size() > 14) {
            acts.remove(0);
        }
    }

    int leg(int boat, int one, int other) {
        if (noBoat(boat) || noLegger(one) || noLegger(other)) {
            return UNKNOWN;
        }
        if (one == other) {
            return BAD;
        }
        if (world.through.get(boat)) {
            return LATE;
        }
        act();
        legged(world, boat, one, other);
        return world.clock;
    }

    private void legged(World w, int boat, int one, int other) {
        w.clock += minutes(w, boat, one, other, 0, 0);
        w.through.set(boat, true);
        w.tired.set(one, Math.min(3, w.tired.get(one) + 1));
        w.tired.set(other, Math.min(3, w.tired.get(other) + 1));
    }

    int rest(int legger) {
        if (noLegger(legger)) {
            return UNKNOWN;
        }
        if (world.tired.get(legger) == 0) {
            return LATE;
        }
        act();
        world.tired.set(legger, 0);
        world.clock += 5;
        return world.clock;
    }

    int wet(int legger, int place) {
        if (noLegger(legger)) {
            return UNKNOWN;
        }
        if (place < 0 || place > 3) {
            return BAD;
        }
        int was = world.lives.get(legger)[place];
        if (was == 2) {
            return LATE;
        }
        act();
        world.lives.get(legger)[place] = 2;
        return was;
    }

    int dry(int legger, int place) {
        if (noLegger(legger)) {
            return UNKNOWN;
        }
        if (place < 0 || place > 3) {
            return BAD;
        }
        if (world.lives.get(legger)[place] != 2) {
            return LATE;
        }
        act();
        world.lives.get(legger)[place] = 0;
        return (int) java.util.Arrays.stream(world.lives.get(legger)).filter(g -> g == 2).count();
    }

    int undo() {
        if (acts.isEmpty()) {
            return LATE;
        }
        world = acts.remove(acts.size() - 1);
        return acts.size();
    }

    // ---- how long

    /** The GROUNDS that one walks over, STEP by STEP. */
    private List<Integer> way(int[] life, int place, int many) {
        List<Integer> way = new ArrayList<>();
        int at = place;
        while (way.size() < many) {
            way.add(life[at]);
            at += life[at] == 2 ? 2 : 1;
            at = at > 3 ? at - 4 : at;
        }
        return way;
    }

    private int step(World w, int legger, int ground, int i) {
        int minutes = new int[] {1, 2, 1, 3}[ground];
        int kind = kinds.get(legger);
        if (kind == 1) {
            minutes += 1;
        }
        if (kind == 2 && minutes > 1) {
            minutes -= 1;
        }
        if (kind == 3 && i == steps / 2) {
            minutes += 2;
        }
        return minutes + w.tired.get(legger);
    }

    int alone(int legger, int place) {
        if (noLegger(legger)) {
            return UNKNOWN;
        }
        if (place < 0 || place > 3) {
            return BAD;
        }
        List<Integer> way = way(world.lives.get(legger), place, steps);
        int sum = 0;
        for (int i = 0; i < steps; i++) {
            sum += step(world, legger, way.get(i), i);
        }
        return sum;
    }

    private int minutes(World w, int boat, int one, int other, int p, int q) {
        List<Integer> a = way(w.lives.get(one), p, steps);
        List<Integer> b = way(w.lives.get(other), q, steps);
        int sum = loads.get(boat);
        for (int i = 0; i < steps; i++) {
            int mine = step(w, one, a.get(i), i);
            int its = step(w, other, b.get(i), i);
            sum += mine > its ? mine : its;
            if (a.get(i).intValue() != b.get(i).intValue()) {
                sum++;
            }
        }
        return sum;
    }

    int time(int boat, int one, int other, int p, int q) {
        if (noBoat(boat) || noLegger(one) || noLegger(other)) {
            return UNKNOWN;
        }
        if (one == other || p < 0 || p > 3 || q < 0 || q > 3) {
            return BAD;
        }
        return minutes(world, boat, one, other, p, q);
    }

    /** {which, how long} of the best of those that have come; null: there are no two. */
    private int[] bestOf(int boat, List<Integer> come) {
        int[] best = null;
        for (int pair = 1; pair < 34; pair++) {
            int one = pair / 10;
            int other = pair % 10;
            if (one < other && come.contains(one) && come.contains(other)) {
                int minutes = minutes(world, boat, one, other, 0, 0);
                if (best == null || minutes < best[1]) {
                    best = new int[] {pair, minutes};
                }
            }
        }
        return best;
    }

    private List<Integer> everybody() {
        List<Integer> all = new ArrayList<>();
        for (int legger = 0; legger < kinds.size(); legger++) {
            all.add(legger);
        }
        return all;
    }

    int best(int boat, int what) {
        if (noBoat(boat)) {
            return UNKNOWN;
        }
        if (what != 0 && what != 1) {
            return BAD;
        }
        int[] best = bestOf(boat, everybody());
        return best == null ? NONE : best[what];
    }

    int begin(int boat, int one, int other, int what) {
        if (noBoat(boat) || noLegger(one) || noLegger(other)) {
            return UNKNOWN;
        }
        if (one == other || what != 0 && what != 1) {
            return BAD;
        }
        int[] best = null;
        for (int p = 0; p < 4; p++) {
            for (int q = 0; q < 4; q++) {
                int minutes = minutes(world, boat, one, other, p, q);
                if (best == null || minutes < best[1]) {
                    best = new int[] {10 * p + q, minutes};
                }
            }
        }
        return best[what];
    }

    /** {how much later, row} over all orders and PAIRS, each legged in a copy of the world; null: NONE. */
    private int[] soonestOf(World from) {
        if (!from.through.contains(false)) {
            return new int[] {0, 0};
        }
        int[] best = null;
        for (int boat = 0; boat < loads.size(); boat++) {
            for (int one = 0; one < kinds.size() && !from.through.get(boat); one++) {
                for (int other = one + 1; other < kinds.size(); other++) {
                    World w = from.copy();
                    legged(w, boat, one, other);
                    int[] on = soonestOf(w);
                    int later = w.clock - from.clock + on[0];
                    int behind = (int) Math.pow(1000, w.through.stream().filter(t -> !t).count());
                    int row = (100 * boat + 10 * one + other) * behind + on[1];
                    if (best == null || later < best[0] || later == best[0] && row < best[1]) {
                        best = new int[] {later, row};
                    }
                }
            }
        }
        return best;
    }

    int soonest(boolean row) {
        int[] best = soonestOf(world);
        return best == null ? NONE : row ? best[1] : best[0];
    }

    int judge(int n, int row) {
        if (n < 1 || n > 3 || row < 0 || String.valueOf(row).length() > 3 * n) {
            return BAD;
        }
        String told = "000000000" + row;
        told = told.substring(told.length() - 3 * n);
        List<Boolean> through = new ArrayList<>(world.through);
        for (int i = 0; i < n; i++) {
            int boat = told.charAt(3 * i) - '0';
            int one = told.charAt(3 * i + 1) - '0';
            int other = told.charAt(3 * i + 2) - '0';
            if (noBoat(boat) || noLegger(one) || noLegger(other) || one == other || through.get(boat)) {
                return i;
            }
            through.set(boat, true);
        }
        return NONE;
    }

    /** {sum of what it adds, how many orders} over all orders of those still to come. */
    private long[] shareOf(int legger, int boat, List<Integer> come, List<Integer> still) {
        if (still.isEmpty()) {
            return new long[] {0, 1};
        }
        long sum = 0;
        long orders = 0;
        for (Integer next : still) {
            List<Integer> then = new ArrayList<>(come);
            then.add(next);
            List<Integer> others = new ArrayList<>(still);
            others.remove(next);
            long[] on = shareOf(legger, boat, then, others);
            sum += on[0] + (next == legger ? on[1] * (worth(boat, then) - worth(boat, come)) : 0);
            orders += on[1];
        }
        return new long[] {sum, orders};
    }

    private int worth(int boat, List<Integer> come) {
        int[] best = bestOf(boat, come);
        return best == null ? 0 : 200 - best[1];
    }

    private static int fraction(long above, long below, boolean upper) {
        long by = BigInteger.valueOf(above).gcd(BigInteger.valueOf(below)).longValue();
        return (int) ((upper ? above : below) / by);
    }

    int share(int legger, int boat, boolean upper) {
        if (noLegger(legger) || noBoat(boat)) {
            return UNKNOWN;
        }
        long[] share = shareOf(legger, boat, new ArrayList<>(), everybody());
        return fraction(share[0], share[1], upper);
    }

    // ---- seen

    int see(int step, int minutes) {
        if (step < 0 || step > 5 || minutes < 1 || minutes > 3) {
            return BAD;
        }
        if (seen.size() == 6) {
            return FULL;
        }
        seen.add(new int[] {step, minutes});
        return seen.size();
    }

    int unsee() {
        int was = seen.size();
        seen.clear();
        return was;
    }

    int lives(int place) {
        if (place < -1 || place > 3) {
            return BAD;
        }
        int many = 0;
        boolean[] may = new boolean[4];
        for (int n = 0; n < 256; n++) {
            int[] life = {n / 64, n / 16 % 4, n / 4 % 4, n % 4};
            List<Integer> way = way(life, 0, 6);
            boolean is = true;
            for (int[] one : seen) {
                is &= new int[] {1, 2, 1, 3}[way.get(one[0])] == one[1];
            }
            if (is) {
                many++;
                may[life[Math.max(0, place)]] = true;
            }
        }
        return place < 0 ? many : (may[0] ? 1 : 0) + (may[1] ? 2 : 0) + (may[2] ? 4 : 0) + (may[3] ? 8 : 0);
    }

    // ---- rests, chances

    int rests(int boat, int other, int what) {
        if (noBoat(boat) || noBoat(other)) {
            return UNKNOWN;
        }
        if (boat == other || what != 0 && what != 1) {
            return BAD;
        }
        List<Integer> rests = new ArrayList<>();
        for (int a = 0; a < 4; a++) {
            for (int b = 0; b < 4; b++) {
                boolean settled = true;
                for (int another = 0; another < 4; another++) {
                    settled &= loss(boat, another, b) >= loss(boat, a, b) && loss(other, another, a) >= loss(other, b, a);
                }
                if (settled) {
                    rests.add(10 * a + b);
                }
            }
        }
        return what == 0 ? rests.size() : rests.isEmpty() ? NONE : rests.get(0);
    }

    private int loss(int boat, int wait, int against) {
        int lost = wait == against ? 6 : wait;
        return wait >= against ? lost + loads.get(boat) : lost;
    }

    int chance(int legger, int t, int x, boolean upper) {
        if (noLegger(legger)) {
            return UNKNOWN;
        }
        if (t < 0 || t > 60 || x < 0 || x > 10) {
            return BAD;
        }
        long ways = 0;
        long all = 0;
        for (int slips = 0; slips < 1 << steps; slips++) {
            long weight = 1;
            int took = 0;
            int at = 0;
            for (int i = 0; i < steps; i++) {
                boolean slip = (slips >> i & 1) == 1;
                int ground = world.lives.get(legger)[at];
                weight *= ground == 2 ? slip ? 10 : 0 : slip ? x : 10 - x;
                took += step(world, legger, ground, i);
                at = (at + (slip ? 2 : 1)) % 4;
            }
            all += weight;
            ways += took <= t ? weight : 0;
        }
        return fraction(ways, all, upper);
    }

    long seed(long v) {
        long was = seed;
        seed = v;
        return was;
    }

    int days(int m) {
        if (m < 1 || m > 30) {
            return BAD;
        }
        World was = world;
        world = world.copy();
        BigInteger bits = BigInteger.ONE.shiftLeft(64);
        for (int day = 0; day < m; day++) {
            BigInteger x = BigInteger.valueOf(seed).multiply(new BigInteger("6364136223846793005"));
            x = x.add(new BigInteger("1442695040888963407")).mod(bits);
            seed = x.longValue();
            int left = x.shiftRight(33).mod(BigInteger.valueOf(20)).intValue();
            if (left >= 16) {
                legAll();
            } else if (left % 4 < kinds.size()) {
                world.lives.get(left % 4)[left / 4] = 2;
            }
        }
        int later = world.clock - was.clock;
        world = was;
        return later;
    }

    private void legAll() {
        world.through.replaceAll(t -> false);
        int[] best = soonestOf(world);
        if (best == null || loads.isEmpty()) {
            return;
        }
        String row = String.format("%0" + 3 * loads.size() + "d", best[1]);
        for (int i = 0; i < row.length(); i += 3) {
            legged(world, row.charAt(i) - '0', row.charAt(i + 1) - '0', row.charAt(i + 2) - '0');
        }
    }

    // ---- slots

    int keep(int slot) {
        if (slot < 0 || slot > 1) {
            return UNKNOWN;
        }
        slots[slot] = world.copy();
        return world.clock;
    }

    int again(int slot) {
        if (slot < 0 || slot > 1) {
            return UNKNOWN;
        }
        if (slots[slot] == null) {
            return LATE;
        }
        world = slots[slot].copy();
        acts.clear();
        return world.clock;
    }
}
