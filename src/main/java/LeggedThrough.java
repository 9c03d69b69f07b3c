/**
 * Barges legged through a long tunnel by men who walk, along its roof, over what they have walked.
 * The words in capitals (PLACE, LIFE, TIRED ..) are those of ../shared/DOC.md.
 */
public final class LeggedThrough {
    public static final int UNKNOWN = -1, BAD = -2, LATE = -3, FULL = -4, NONE = -9;

    private static final int MOST_LETTERS = 40, MOST_STEPS = 6, MOST_LEGGERS = 4, MOST_BOATS = 3;
    private static final int PLACES = 4, MOST_TIRED = 3, MOST_ACTS = 14, MOST_SEEN = 6, SLOTS = 2;
    private static final int FLAT = 0, HILL = 1, WET = 2, STAIRS = 3;
    private static final int FEN = 1, RUNAWAY = 2, OLD = 3;
    private static final int REST_MINUTES = 5, LONGEST_WAIT = 3, BOTH_BACK = 6, SHARED_WORTH = 200;
    private static final int LONGEST_CHANCE = 60, TENTHS = 10, MOST_DAYS = 30, SORTS_OF_DAYS = 20;
    private static final int MOST_JUDGED = 3, LEG_FIGURES = 1000, ALL_LIVES = 256;
    private static final int BELOW_PAIR = 100, BELOW_ROW = 1000000000;
    /** More MINUTES than three legs can take. */
    private static final int ENDLESS = 1000;

    private final Text text = new Text();
    private final Plan plan = new Plan();
    private final State state = new State();
    private final Acts acts = new Acts();
    private final int[] slots = new int[SLOTS * State.FIGURES];
    private final int[] aside = new int[State.FIGURES];
    private int slotsKept;
    private int seenMinutes;
    private int seenMany;
    private long theSeed;

    public LeggedThrough() {
    }

    // ---- the tunnel

    public int write(int letter) {
        if (letter < 0 || letter > 255) {
            return BAD;
        }
        return text.append(letter) ? text.length : FULL;
    }

    public int wipe() {
        int was = text.length;
        text.length = 0;
        return was;
    }

    public int fault() {
        return text.firstFault();
    }

    public int tunnel() {
        if (text.firstFault() != NONE) {
            return LATE;
        }
        readTunnel();
        acts.forgetAll();
        slotsKept = 0;
        return 10 * plan.leggers + plan.boats;
    }

    public int about(int what) {
        switch (what) {
            case 0: return plan.steps;
            case 1: return plan.leggers;
            case 2: return plan.boats;
            case 3: return state.through;
            case 4: return state.clock;
            case 5: return acts.many;
            case 6: return seenMany;
            case 7: return text.length;
            default: return BAD;
        }
    }

    public int legger(int legger, int what) {
        if (!plan.hasLegger(legger)) {
            return UNKNOWN;
        }
        if (isPlace(what)) {
            return state.groundAt(legger, what);
        }
        switch (what) {
            case 4: return plan.kindOf(legger);
            case 5: return timesTired(state.tired, legger);
            default: return BAD;
        }
    }

    public int load(int boat) {
        return plan.hasBoat(boat) ? plan.loadOf(boat) : UNKNOWN;
    }

    // ---- acts

    public int leg(int boat, int one, int other) {
        int refusal = pairRefusal(boat, one, other);
        if (refusal != 0) {
            return refusal;
        }
        if (isIn(state.through, boat)) {
            return LATE;
        }
        acts.remember(state);
        state.clock += pairMinutes(one, other, 0, 0, state.tired) + plan.loadOf(boat);
        state.through |= 1 << boat;
        state.tired = tireBoth(state.tired, one, other);
        return state.clock;
    }

    public int rest(int legger) {
        if (!plan.hasLegger(legger)) {
            return UNKNOWN;
        }
        if (timesTired(state.tired, legger) == 0) {
            return LATE;
        }
        acts.remember(state);
        state.tired &= ~(3 << 2 * legger);
        state.clock += REST_MINUTES;
        return state.clock;
    }

    public int wet(int legger, int place) {
        int refusal = placeRefusal(legger, place);
        if (refusal != 0) {
            return refusal;
        }
        int was = state.groundAt(legger, place);
        if (was == WET) {
            return LATE;
        }
        acts.remember(state);
        state.cover(legger, place, WET);
        return was;
    }

    public int dry(int legger, int place) {
        int refusal = placeRefusal(legger, place);
        if (refusal != 0) {
            return refusal;
        }
        if (state.groundAt(legger, place) != WET) {
            return LATE;
        }
        acts.remember(state);
        state.cover(legger, place, FLAT);
        return state.wetPlaces(legger);
    }

    public int undo() {
        if (acts.many == 0) {
            return LATE;
        }
        acts.takeBack(state);
        return acts.many;
    }

    // ---- how long

    public int alone(int legger, int place) {
        int refusal = placeRefusal(legger, place);
        return refusal != 0 ? refusal : aloneMinutes(legger, place);
    }

    public int time(int boat, int one, int other, int p, int q) {
        int refusal = pairRefusal(boat, one, other);
        if (refusal != 0) {
            return refusal;
        }
        if (!isPlace(p) || !isPlace(q)) {
            return BAD;
        }
        return pairMinutes(one, other, p, q, state.tired) + plan.loadOf(boat);
    }

    public int best(int boat, int what) {
        if (!plan.hasBoat(boat)) {
            return UNKNOWN;
        }
        if (what != 0 && what != 1) {
            return BAD;
        }
        int least = leastPair(plan.allLeggers());
        if (least == NONE) {
            return NONE;
        }
        return what == 0 ? least % BELOW_PAIR : least / BELOW_PAIR + plan.loadOf(boat);
    }

    public int begin(int boat, int one, int other, int what) {
        int refusal = pairRefusal(boat, one, other);
        if (refusal != 0) {
            return refusal;
        }
        if (what != 0 && what != 1) {
            return BAD;
        }
        int least = leastBegin(one, other);
        return what == 0 ? least % BELOW_PAIR : least / BELOW_PAIR + plan.loadOf(boat);
    }

    public int soonest(boolean row) {
        long least = soonestLegs();
        if (least == NONE) {
            return NONE;
        }
        return (int) (row ? least % BELOW_ROW : least / BELOW_ROW);
    }

    public int judge(int n, int row) {
        if (n < 1 || n > MOST_JUDGED || row < 0 || legTold(row, n) != 0) {
            return BAD;
        }
        int through = state.through;
        for (int i = 0; i < n; i++) {
            int told = legTold(row, n - 1 - i) % LEG_FIGURES;
            int boat = told / 100;
            if (pairRefusal(boat, told / 10 % 10, told % 10) != 0 || isIn(through, boat)) {
                return i;
            }
            through |= 1 << boat;
        }
        return NONE;
    }

    public int share(int legger, int boat, boolean upper) {
        if (!plan.hasLegger(legger) || !plan.hasBoat(boat)) {
            return UNKNOWN;
        }
        int sum = 0;
        for (int come = 0; come <= plan.allLeggers(); come++) {
            if (!isIn(come, legger)) {
                int more = worth(boat, come | 1 << legger) - worth(boat, come);
                sum += more * ordersBehind(Integer.bitCount(come));
            }
        }
        return fraction(sum, factorial(plan.leggers), upper);
    }

    // ---- seen

    public int see(int step, int minutes) {
        if (step < 0 || step >= MOST_STEPS || minutes < 1 || minutes > 3) {
            return BAD;
        }
        if (seenMany >= MOST_SEEN) {
            return FULL;
        }
        seenMinutes |= 1 << (4 * step + minutes);
        seenMany++;
        return seenMany;
    }

    public int unsee() {
        int was = seenMany;
        seenMany = 0;
        seenMinutes = 0;
        return was;
    }

    public int lives(int place) {
        if (place != -1 && !isPlace(place)) {
            return BAD;
        }
        int many = 0;
        int grounds = 0;
        for (int life = 0; life < ALL_LIVES; life++) {
            if (isAsSeen(life)) {
                many++;
                grounds |= place < 0 ? 0 : 1 << groundIn(life, place);
            }
        }
        return place < 0 ? many : grounds;
    }

    // ---- rests, chances

    public int rests(int boat, int other, int what) {
        if (!plan.hasBoat(boat) || !plan.hasBoat(other)) {
            return UNKNOWN;
        }
        if (boat == other || what != 0 && what != 1) {
            return BAD;
        }
        int many = 0;
        int first = NONE;
        for (int wait = 0; wait <= LONGEST_WAIT; wait++) {
            for (int against = 0; against <= LONGEST_WAIT; against++) {
                if (staysWith(plan.loadOf(boat), wait, against) && staysWith(plan.loadOf(other), against, wait)) {
                    first = many == 0 ? 10 * wait + against : first;
                    many++;
                }
            }
        }
        return what == 0 ? many : first;
    }

    public int chance(int legger, int t, int x, boolean upper) {
        if (!plan.hasLegger(legger)) {
            return UNKNOWN;
        }
        if (t < 0 || t > LONGEST_CHANCE || x < 0 || x > TENTHS) {
            return BAD;
        }
        int all = 1;
        for (int step = 0; step < plan.steps; step++) {
            all *= TENTHS;
        }
        int inTime = 0;
        for (int slips = 0; slips < 1 << plan.steps; slips++) {
            inTime += waysInTime(legger, slips, t, x);
        }
        return fraction(inTime, all, upper);
    }

    public long seed(long v) {
        long was = theSeed;
        theSeed = v;
        return was;
    }

    public int days(int m) {
        if (m < 1 || m > MOST_DAYS) {
            return BAD;
        }
        state.storeIn(aside, 0);
        int before = state.clock;
        for (int day = 0; day < m; day++) {
            theSeed = theSeed * 6364136223846793005L + 1442695040888963407L;
            int sort = (int) ((theSeed >>> 33) % SORTS_OF_DAYS);
            int place = sort / 4;
            int legger = sort % 4;
            if (!isPlace(place)) {
                legAll();
            } else if (plan.hasLegger(legger)) {
                state.cover(legger, place, WET);
            }
        }
        int later = state.clock - before;
        state.fetchFrom(aside, 0);
        return later;
    }

    // ---- slots

    public int keep(int slot) {
        if (slot < 0 || slot >= SLOTS) {
            return UNKNOWN;
        }
        state.storeIn(slots, slot);
        slotsKept |= 1 << slot;
        return state.clock;
    }

    public int again(int slot) {
        if (slot < 0 || slot >= SLOTS) {
            return UNKNOWN;
        }
        if (!isIn(slotsKept, slot)) {
            return LATE;
        }
        state.fetchFrom(slots, slot);
        acts.forgetAll();
        return state.clock;
    }

    // ---- behind the face: refusals and small sums

    private int pairRefusal(int boat, int one, int other) {
        if (!plan.hasBoat(boat) || !plan.hasLegger(one) || !plan.hasLegger(other)) {
            return UNKNOWN;
        }
        return one == other ? BAD : 0;
    }

    private int placeRefusal(int legger, int place) {
        if (!plan.hasLegger(legger)) {
            return UNKNOWN;
        }
        return isPlace(place) ? 0 : BAD;
    }

    private static boolean isPlace(int place) {
        return place >= 0 && place < PLACES;
    }

    private static boolean isIn(int bits, int i) {
        return (bits >>> i & 1) != 0;
    }

    private static int groundIn(int life, int place) {
        return life >>> 2 * place & 3;
    }

    private static int timesTired(int tired, int legger) {
        return tired >>> 2 * legger & 3;
    }

    private static int tireOne(int tired, int legger) {
        return timesTired(tired, legger) >= MOST_TIRED ? tired : tired + (1 << 2 * legger);
    }

    private static int tireBoth(int tired, int one, int other) {
        return tireOne(tireOne(tired, one), other);
    }

    /** The row without its last legs. */
    private static int legTold(int row, int lastLegs) {
        int rest = row;
        for (int i = 0; i < lastLegs; i++) {
            rest /= LEG_FIGURES;
        }
        return rest;
    }

    private static int factorial(int n) {
        int product = 1;
        for (int i = 2; i <= n; i++) {
            product *= i;
        }
        return product;
    }

    /** The upper or the lower one of a fraction in least terms; below has to be more than 0. */
    private static int fraction(int above, int below, boolean upper) {
        int divisor = below;
        int left = above;
        // Euclid's way is at its end after fewer than 50 turns, whatever the int is
        for (int turn = 0; turn < 100 && left != 0; turn++) {
            int next = divisor % left;
            divisor = left;
            left = next;
        }
        int told = upper ? above : below;
        return divisor == 0 ? told : told / divisor;
    }

    private void readTunnel() {
        plan.layOut(text.figureAt(1));
        state.clear();
        int at = 2;
        while (at < text.length) {
            if (text.letterAt(at) == 'G') {
                for (int place = 0; place < PLACES; place++) {
                    state.cover(plan.leggers, place, text.figureAt(at + 2 + place));
                }
                plan.addLegger(text.figureAt(at + 1));
                at += 2 + PLACES;
            } else {
                plan.addBoat(text.figureAt(at + 1));
                at += 2;
            }
        }
    }

    // ---- behind the face: minutes

    private static int minutesOver(int ground) {
        switch (ground) {
            case HILL: return 2;
            case STAIRS: return 3;
            default: return 1;
        }
    }

    private static int placeBehind(int place, int ground) {
        return (place + (ground == WET ? 2 : 1)) % PLACES;
    }

    private int stepMinutes(int legger, int ground, int step, int tired) {
        int minutes = minutesOver(ground);
        switch (plan.kindOf(legger)) {
            case FEN:
                minutes++;
                break;
            case RUNAWAY:
                minutes = Math.max(1, minutes - 1);
                break;
            case OLD:
                minutes += step == plan.steps / 2 ? 2 : 0;
                break;
            default:
                break;
        }
        return minutes + timesTired(tired, legger);
    }

    private int aloneMinutes(int legger, int place) {
        int sum = 0;
        int at = place;
        for (int step = 0; step < plan.steps; step++) {
            int ground = state.groundAt(legger, at);
            sum += stepMinutes(legger, ground, step, state.tired);
            at = placeBehind(at, ground);
        }
        return sum;
    }

    /** What all STEPS take without the LOAD; tired is told, since plans go on from who would be TIRED then. */
    private int pairMinutes(int one, int other, int p, int q, int tired) {
        int sum = 0;
        int oneAt = p;
        int otherAt = q;
        for (int step = 0; step < plan.steps; step++) {
            int under = state.groundAt(one, oneAt);
            int beside = state.groundAt(other, otherAt);
            sum += Math.max(stepMinutes(one, under, step, tired), stepMinutes(other, beside, step, tired));
            sum += under == beside ? 0 : 1;
            oneAt = placeBehind(oneAt, under);
            otherAt = placeBehind(otherAt, beside);
        }
        return sum;
    }

    // In the three searches below minutes stand ahead of what is chosen, in one number,
    // so that the least number is the least time and, of like ones, the first choice.

    /** The best PAIR among some (bits): 100 times its minutes, and which it is; NONE. */
    private int leastPair(int among) {
        int least = NONE;
        for (int one = 0; one < plan.leggers; one++) {
            for (int other = one + 1; other < plan.leggers; other++) {
                if (isIn(among, one) && isIn(among, other)) {
                    int minutes = pairMinutes(one, other, 0, 0, state.tired);
                    int told = minutes * BELOW_PAIR + 10 * one + other;
                    least = least == NONE ? told : Math.min(least, told);
                }
            }
        }
        return least;
    }

    private int leastBegin(int one, int other) {
        int least = ENDLESS * BELOW_PAIR;
        for (int p = 0; p < PLACES; p++) {
            for (int q = 0; q < PLACES; q++) {
                int minutes = pairMinutes(one, other, p, q, state.tired);
                least = Math.min(least, minutes * BELOW_PAIR + 10 * p + q);
            }
        }
        return least;
    }

    /** How much later THE CLOCK is by SOONEST, ahead of the nine figures of its row; 0; NONE. */
    private long soonestLegs() {
        int left = plan.allBoats() & ~state.through;
        if (left != 0 && plan.leggers < 2) {
            return NONE;
        }
        return leastLegs(0, state.tired, 0, 0, (long) ENDLESS * BELOW_ROW);
    }

    /**
     * The lesser one of least and of the best way on from a BOAT, when the legs so far have taken spent and are
     * told by row. No order of the BOATS is sooner than another one, since a LOAD is the same behind whatever legs:
     * so the first row has the BOATS as they are numbered. It goes as deep as there are BOATS.
     */
    private long leastLegs(int from, int tired, int spent, int row, long least) {
        long soFar = (long) spent * BELOW_ROW;
        if (soFar >= least) {
            return least;
        }
        int boat = nextToLeg(from);
        if (boat >= plan.boats) {
            return Math.min(least, soFar + row);
        }
        long found = least;
        for (int one = 0; one < plan.leggers; one++) {
            for (int other = one + 1; other < plan.leggers; other++) {
                found = leastBehind(boat, one, other, tired, spent, row, found);
            }
        }
        return found;
    }

    /** The same behind the leg of that BOAT by a PAIR. */
    private long leastBehind(int boat, int one, int other, int tired, int spent, int row, long least) {
        int then = spent + pairMinutes(one, other, 0, 0, tired) + plan.loadOf(boat);
        int longer = row * LEG_FIGURES + 100 * boat + 10 * one + other;
        return leastLegs(boat + 1, tireBoth(tired, one, other), then, longer, least);
    }

    private int nextToLeg(int from) {
        int boat = from;
        while (boat < plan.boats && isIn(state.through, boat)) {
            boat++;
        }
        return boat;
    }

    // ---- behind the face: shares, seen, rests, chances

    private int worth(int boat, int come) {
        int least = leastPair(come);
        return least == NONE ? 0 : SHARED_WORTH - least / BELOW_PAIR - plan.loadOf(boat);
    }

    /** In how many orders one LEGGER comes when just these so many have come. */
    private int ordersBehind(int many) {
        return factorial(many) * factorial(plan.leggers - 1 - many);
    }

    private boolean isAsSeen(int life) {
        int place = 0;
        for (int step = 0; step < MOST_STEPS; step++) {
            int ground = groundIn(life, place);
            int seen = seenMinutes >>> 4 * step & 15;
            if ((seen & ~(1 << minutesOver(ground))) != 0) {
                return false;
            }
            place = placeBehind(place, ground);
        }
        return true;
    }

    private static int loss(int load, int wait, int against) {
        if (wait == against) {
            return BOTH_BACK + load;
        }
        return wait > against ? load + wait : wait;
    }

    private static boolean staysWith(int load, int wait, int against) {
        for (int another = 0; another <= LONGEST_WAIT; another++) {
            if (loss(load, another, against) < loss(load, wait, against)) {
                return false;
            }
        }
        return true;
    }

    /** Of 10 ways at each STEP those that slip in just these STEPS (bits), if they take t or less. */
    private int waysInTime(int legger, int slips, int t, int x) {
        int ways = 1;
        int minutes = 0;
        int at = 0;
        for (int step = 0; step < plan.steps; step++) {
            int ground = state.groundAt(legger, at);
            int tenths = ground == WET ? TENTHS : x;
            boolean slipped = isIn(slips, step);
            ways *= slipped ? tenths : TENTHS - tenths;
            minutes += stepMinutes(legger, ground, step, state.tired);
            at = placeBehind(at, slipped ? WET : FLAT);
        }
        return minutes <= t ? ways : 0;
    }

    /** A day's legging. That all are THROUGH then is not told: it would only be taken back by the next one. */
    private void legAll() {
        state.through = 0;
        long least = soonestLegs();
        if (least == NONE) {
            return;
        }
        int row = (int) (least % BELOW_ROW);
        for (int boat = 0; boat < plan.boats; boat++) {
            state.tired = tireBoth(state.tired, row / 10 % 10, row % 10);
            row /= LEG_FIGURES;
        }
        state.clock += (int) (least / BELOW_ROW);
    }

    // ---- what is held

    private static final class Text {
        private final int[] letters = new int[MOST_LETTERS];
        private int length;

        boolean append(int letter) {
            if (length < 0 || length >= letters.length) {
                return false;
            }
            letters[length] = letter;
            length++;
            return true;
        }

        int letterAt(int place) {
            return place >= 0 && place < length && place < letters.length ? letters[place] : -1;
        }

        int figureAt(int place) {
            return letterAt(place) - '0';
        }

        int firstFault() {
            int leggers = 0;
            int boats = 0;
            int figuresDue = 0;
            char lowest = '0';
            char highest = '0';
            for (int place = 0; place < length; place++) {
                int letter = letterAt(place);
                if (figuresDue > 0) {
                    if (letter < lowest || letter > highest) {
                        return place;
                    }
                    figuresDue--;
                } else if (place == 0 && letter == 'L') {
                    figuresDue = 1;
                    lowest = '1';
                    highest = '6';
                } else if (place > 0 && letter == 'G' && leggers < MOST_LEGGERS) {
                    leggers++;
                    figuresDue = 1 + PLACES;
                    lowest = '0';
                    highest = '3';
                } else if (place > 0 && letter == 'B' && boats < MOST_BOATS) {
                    boats++;
                    figuresDue = 1;
                    lowest = '0';
                    highest = '9';
                } else {
                    return place;
                }
            }
            return length == 0 || figuresDue > 0 ? length : NONE;
        }
    }

    private static final class Plan {
        private int steps = 1;
        private int leggers;
        private int boats;
        private int kinds;
        private int loads;

        void layOut(int manySteps) {
            steps = manySteps;
            leggers = 0;
            boats = 0;
            kinds = 0;
            loads = 0;
        }

        void addLegger(int kind) {
            kinds |= kind << 2 * leggers;
            leggers++;
        }

        void addBoat(int weight) {
            loads |= weight << 4 * boats;
            boats++;
        }

        boolean hasLegger(int legger) {
            return legger >= 0 && legger < leggers;
        }

        boolean hasBoat(int boat) {
            return boat >= 0 && boat < boats;
        }

        int allLeggers() {
            return (1 << leggers) - 1;
        }

        int allBoats() {
            return (1 << boats) - 1;
        }

        int kindOf(int legger) {
            return kinds >>> 2 * legger & 3;
        }

        int loadOf(int boat) {
            return loads >>> 4 * boat & 15;
        }
    }

    /** All that ACTS change, in four numbers, so that a whole one is kept for each ACT and each SLOT. */
    private static final class State {
        private static final int FIGURES = 4;

        private int grounds;
        private int tired;
        private int through;
        private int clock;

        void clear() {
            grounds = 0;
            tired = 0;
            through = 0;
            clock = 0;
        }

        int groundAt(int legger, int place) {
            return groundIn(grounds >>> 8 * legger, place);
        }

        void cover(int legger, int place, int ground) {
            int shift = 8 * legger + 2 * place;
            grounds = (grounds & ~(3 << shift)) | (ground << shift);
        }

        int wetPlaces(int legger) {
            int many = 0;
            for (int place = 0; place < PLACES; place++) {
                many += groundAt(legger, place) == WET ? 1 : 0;
            }
            return many;
        }

        void storeIn(int[] row, int index) {
            int at = index * FIGURES;
            if (at >= 0 && at <= row.length - FIGURES) {
                row[at] = grounds;
                row[at + 1] = tired;
                row[at + 2] = through;
                row[at + 3] = clock;
            }
        }

        void fetchFrom(int[] row, int index) {
            int at = index * FIGURES;
            if (at >= 0 && at <= row.length - FIGURES) {
                grounds = row[at];
                tired = row[at + 1];
                through = row[at + 2];
                clock = row[at + 3];
            }
        }
    }

    /** What was ahead of each ACT, in a ring, so that the first one is forgotten without moving the others. */
    private static final class Acts {
        private final int[] ring = new int[MOST_ACTS * State.FIGURES];
        private int first;
        private int many;

        void forgetAll() {
            many = 0;
        }

        void remember(State state) {
            if (many >= MOST_ACTS) {
                first = (first + 1) % MOST_ACTS;
                many--;
            }
            state.storeIn(ring, (first + many) % MOST_ACTS);
            many++;
        }

        void takeBack(State state) {
            many--;
            state.fetchFrom(ring, (first + many) % MOST_ACTS);
        }
    }
}
