import java.util.Arrays;

/**
 * A legged machine that walks in whole numbers, over a ground that is mapped one way and is another.
 * A point is held as one number, 20 times its y, and its x, together: so the order of the numbers is
 * the order by y, then x, that the document asks for wherever several points are as good.
 */
public final class Gaitwright {
    public static final int NONE = -1;

    private static final int SIDE = 20;
    private static final int POINTS = SIDE * SIDE;
    private static final int HIGHEST = 9;
    private static final int FIRMEST = 99;
    private static final int BEST_GRIP = 9;
    private static final int FARTHEST_OUT = 5;
    private static final int LONGEST_REACH = 6;
    // Differences that make 9 together have squares of 41 together at least, which is more than 6 times 6.
    private static final int FARTHEST_REACHED = 8;
    private static final int MOST_LEGS = 6;
    private static final int MOST_PHASES = 8;
    private static final int MOST_WALKED = 20;
    private static final int MOST_FALLS = 40;
    private static final int MOST_MOVES = 3;
    private static final int MOST_ENERGY = 1000;
    private static final int MOST_LOAD = 20;
    private static final int OWN_WEIGHT = 10;
    private static final int RISE_COST = 20;
    private static final int MOST_CLIMB = 2;
    private static final int STUMBLED = 1;
    private static final int SANK = 2;
    private static final int SLIPPED = 3;
    private static final int BITS_OF_MINUS_ONE = 0xBF800000;

    private final Land land;
    private final Frame frame;
    private final Stance stance;
    private final Stance trial;
    private final Pieces pieces;
    private final Damage damage;
    private final Falls falls;
    private final Gait gait;
    private final Planner planner;
    private boolean stands;
    private int energy;

    public Gaitwright() {
        Hull hull = new Hull();
        land = new Land();
        frame = new Frame();
        stance = new Stance(land, frame, hull);
        trial = new Stance(land, frame, hull);
        pieces = new Pieces();
        damage = new Damage();
        falls = new Falls();
        gait = new Gait();
        planner = new Planner(land, frame, hull);
        stands = false;
        energy = MOST_ENERGY;
    }

    // ---- what is told

    public int ground(int x, int y, int height, int firmness, int grip)
            throws IllegalArgumentException, IllegalStateException {
        int point = pointAt(x, y);
        if (point == NONE || !isWithin(height, 0, HIGHEST) || !isWithin(firmness, 0, FIRMEST)
                || !isWithin(grip, 0, BEST_GRIP)) {
            throw new IllegalArgumentException("no such point, or no such ground");
        }
        if (stance.isTaken(point, NONE)) {
            throw new IllegalStateException("a foot is down there");
        }
        int before = land.height.at(point);
        land.height.put(point, height);
        land.firmness.put(point, firmness);
        land.grip.put(point, grip);
        return before;
    }

    public int chart(int x, int y, int height) throws IllegalArgumentException {
        int point = pointAt(x, y);
        if (point == NONE || !isWithin(height, 0, HIGHEST)) {
            throw new IllegalArgumentException("no such point, or no such height");
        }
        int before = land.mapped.at(point);
        land.mapped.put(point, height);
        return before;
    }

    public int leg(int x, int y, int reach) throws IllegalArgumentException, IllegalStateException {
        if (!isAside(x) || !isAside(y) || !isWithin(reach, 1, LONGEST_REACH)) {
            throw new IllegalArgumentException("no such hip, or no such reach");
        }
        if (stands || frame.legs >= MOST_LEGS) {
            throw new IllegalStateException("no leg can be added");
        }
        return frame.join(x, y, reach);
    }

    public int charge(int much) throws IllegalArgumentException {
        if (!isWithin(much, 1, MOST_ENERGY)) {
            throw new IllegalArgumentException("no such energy");
        }
        energy = Math.min(MOST_ENERGY, energy + much);
        return energy;
    }

    public int phase(int leg, int x, int y, int alongX, int alongY)
            throws IndexOutOfBoundsException, IllegalArgumentException, IllegalStateException {
        if (!isLeg(leg)) {
            throw new IndexOutOfBoundsException("no such leg");
        }
        if (!isWithin(x, -LONGEST_REACH, LONGEST_REACH) || !isWithin(y, -LONGEST_REACH, LONGEST_REACH)
                || !isWithin(alongX, -1, 1) || !isWithin(alongY, -1, 1)) {
            throw new IllegalArgumentException("no such way");
        }
        if (gait.count >= MOST_PHASES) {
            throw new IllegalStateException("no phase can be added");
        }
        return gait.add(leg, x, y, alongX, alongY);
    }

    public int halt() {
        int before = gait.count;
        gait.clear();
        return before;
    }

    // ---- acts

    public int load(int weight, int x, int y) throws IllegalArgumentException, IllegalStateException {
        if (!isWithin(weight, 0, MOST_LOAD) || !isAside(x) || !isAside(y)) {
            throw new IllegalArgumentException("no such load, or no such place for it");
        }
        if (!takeLoad(weight, x, y)) {
            throw new IllegalStateException("refused");
        }
        return settled();
    }

    public int rise() throws IllegalStateException {
        if (!getUp()) {
            throw new IllegalStateException("refused");
        }
        settled();
        return stance.down();
    }

    public int lift(int leg) throws IndexOutOfBoundsException, IllegalStateException {
        if (!isLeg(leg)) {
            throw new IndexOutOfBoundsException("no such leg");
        }
        if (!liftFoot(leg)) {
            throw new IllegalStateException("refused");
        }
        return settled();
    }

    public int place(int leg, int x, int y)
            throws IndexOutOfBoundsException, IllegalArgumentException, IllegalStateException {
        if (!isLeg(leg)) {
            throw new IndexOutOfBoundsException("no such leg");
        }
        int point = pointAt(x, y);
        if (point == NONE) {
            throw new IllegalArgumentException("no such point");
        }
        if (!placeFoot(leg, point)) {
            throw new IllegalStateException("refused");
        }
        return settled();
    }

    public int shift(int x, int y) throws IllegalArgumentException, IllegalStateException {
        if (!isWithin(x, -1, 1) || !isWithin(y, -1, 1) || x == 0 && y == 0) {
            throw new IllegalArgumentException("no such way");
        }
        if (!shiftBody(x, y)) {
            throw new IllegalStateException("refused");
        }
        return settled();
    }

    public int walk(int phases) throws IllegalArgumentException, IllegalStateException {
        if (!isWithin(phases, 1, MOST_WALKED)) {
            throw new IllegalArgumentException("no such number of phases");
        }
        if (gait.count == 0) {
            throw new IllegalStateException("no phases");
        }
        int done = 0;
        for (; done < phases && isPhaseDone(gait.next); done++) {
            gait.goOn();
        }
        return done;
    }

    // ---- what is asked

    public int machine(int what) throws IllegalArgumentException {
        switch (what) {
            case 0: return stance.bodyX;
            case 1: return stance.bodyY;
            case 2: return stands ? 1 : 0;
            case 3: return energy;
            case 4: return frame.loadWeight;
            case 5: return stance.level(NONE);
            case 6: return stance.pressure();
            case 7: return stance.down();
            case 8: return damage.count;
            case 9: return falls.count;
            case 10: return frame.legs;
            case 11: return gait.count == 0 ? NONE : gait.next;
            default: throw new IllegalArgumentException("no such thing to tell");
        }
    }

    public int foot(int leg, int what) throws IndexOutOfBoundsException, IllegalArgumentException {
        if (!isLeg(leg)) {
            throw new IndexOutOfBoundsException("no such leg");
        }
        int point = stance.feet.at(leg);
        switch (what) {
            case 0: return point == NONE ? 0 : 1;
            case 1: return point == NONE ? NONE : xOf(point);
            case 2: return point == NONE ? NONE : yOf(point);
            default: throw new IllegalArgumentException("no such thing to tell");
        }
    }

    public int point(int x, int y, int what) throws IllegalArgumentException {
        int point = pointAt(x, y);
        if (point == NONE) {
            throw new IllegalArgumentException("no such point");
        }
        switch (what) {
            case 0: return land.height.at(point);
            case 1: return land.firmness.at(point);
            case 2: return land.grip.at(point);
            case 3: return land.mapped.at(point);
            default: throw new IllegalArgumentException("no such thing to tell");
        }
    }

    public boolean isStable() {
        return stance.holdsWithout(NONE);
    }

    public boolean isStableAnew() {
        pieces.gather(stance.feet, stance.momentX(), stance.momentY(), frame.weight());
        return pieces.holdMoment();
    }

    public int margin() {
        if (!stance.holdsWithout(NONE)) {
            return BITS_OF_MINUS_ONE;
        }
        Hull hull = stance.hull;
        return hull.size < 3 ? 0
                : bitsOf(hull.leastSquare(stance.momentX(), stance.momentY(), frame.weight()));
    }

    public int corner(int corner) throws IllegalArgumentException {
        if (corner < 0) {
            throw new IllegalArgumentException("no such corner");
        }
        stance.hull.wrap(stance.feet, NONE);
        return corner < stance.hull.size ? stance.hull.corners.at(corner) : NONE;
    }

    public int foothold(int leg) throws IndexOutOfBoundsException {
        if (!isLeg(leg)) {
            throw new IndexOutOfBoundsException("no such leg");
        }
        return stance.bestPoint(leg);
    }

    public int wouldLift(int leg) throws IndexOutOfBoundsException {
        if (!isLeg(leg)) {
            throw new IndexOutOfBoundsException("no such leg");
        }
        if (!mayLift(leg)) {
            return NONE;
        }
        trial.copy(stance);
        trial.feet.put(leg, NONE);
        if (!trial.sinkAway()) {
            return 0;
        }
        return trial.holdsWithout(NONE) ? 1 : 2;
    }

    public int fewest(int x, int y) throws IllegalArgumentException {
        int point = pointAt(x, y);
        if (point == NONE) {
            throw new IllegalArgumentException("no such point");
        }
        if (!stands) {
            return NONE;
        }
        planner.start(stance, point);
        for (int moves = planner.away(0); moves <= MOST_MOVES; moves++) {
            if (isReachedBy(planner, 0, moves)) {
                return moves;
            }
        }
        return NONE;
    }

    public int fewestAnew(int x, int y) throws IllegalArgumentException {
        int point = pointAt(x, y);
        if (point == NONE) {
            throw new IllegalArgumentException("no such point");
        }
        if (!stands) {
            return NONE;
        }
        planner.start(stance, point);
        int least = shortestRow(planner, 0);
        return least > MOST_MOVES ? NONE : least;
    }

    public int fall(int fall, int what) throws IndexOutOfBoundsException, IllegalArgumentException {
        if (fall < 0 || fall >= falls.kept()) {
            throw new IndexOutOfBoundsException("no such fall");
        }
        switch (what) {
            case 0: return falls.direction.at(fall);
            case 1: return falls.what.at(fall);
            case 2: return xOf(falls.point.at(fall));
            case 3: return yOf(falls.point.at(fall));
            default: throw new IllegalArgumentException("no such thing to tell");
        }
    }

    // ---- the acts themselves: each answers whether it was not refused

    private boolean takeLoad(int weight, int x, int y) {
        int weightBefore = frame.loadWeight;
        int xBefore = frame.loadX;
        int yBefore = frame.loadY;
        frame.carry(weight, x, y);
        if (stands && !stance.holdsWithout(NONE)) {
            frame.carry(weightBefore, xBefore, yBefore);
            return false;
        }
        damage.beginAct();
        return true;
    }

    private boolean getUp() {
        if (stands || energy < RISE_COST || !hipsBear()) {
            return false;
        }
        energy -= RISE_COST;
        stands = true;
        damage.forget();
        for (int leg = 0; leg < frame.legs; leg++) {
            int hip = pointAt(stance.hipX(leg), stance.hipY(leg));
            if (hip != NONE && !stance.isTaken(hip, NONE)) {
                setFoot(leg, hip);
            }
        }
        return true;
    }

    private boolean liftFoot(int leg) {
        if (!mayLift(leg)) {
            return false;
        }
        energy--;
        damage.beginAct();
        stance.feet.put(leg, NONE);
        return true;
    }

    private boolean placeFoot(int leg, int point) {
        int cost = 1 + stance.far(leg, point);
        int climb = Math.abs(land.mapped.at(point) - stance.level(NONE));
        if (!stands || energy < cost || stance.feet.at(leg) != NONE || climb > MOST_CLIMB
                || !stance.isInReach(leg, point) || stance.isTaken(point, NONE)) {
            return false;
        }
        energy -= cost;
        damage.beginAct();
        setFoot(leg, point);
        return true;
    }

    private boolean shiftBody(int x, int y) {
        int cost = roundedUp(frame.weight(), OWN_WEIGHT);
        trial.copy(stance);
        if (!stands || energy < cost || !trial.moveBody(x, y)) {
            return false;
        }
        energy -= cost;
        damage.beginAct();
        stance.copy(trial);
        return true;
    }

    /** Whether the phase was done: no act of it was refused, and nothing was broken by one. */
    private boolean isPhaseDone(int phase) {
        int leg = gait.leg.at(phase);
        int from = stance.feet.at(leg);
        if (!liftFoot(leg) || settled() != 0) {
            return false;
        }
        int to = pointAt(xOf(from) + gait.footX.at(phase), yOf(from) + gait.footY.at(phase));
        if (to == NONE || !placeFoot(leg, to) || settled() != 0) {
            return false;
        }
        int alongX = gait.bodyX.at(phase);
        int alongY = gait.bodyY.at(phase);
        return alongX == 0 && alongY == 0 || shiftBody(alongX, alongY) && settled() == 0;
    }

    private boolean mayLift(int leg) {
        return stands && energy >= 1 && stance.feet.at(leg) != NONE && stance.holdsWithout(leg);
    }

    /** Whether the machine could stand with all feet at their hips, by the map. */
    private boolean hipsBear() {
        int lowest = HIGHEST;
        int highest = 0;
        trial.copy(stance);
        for (int leg = 0; leg < frame.legs; leg++) {
            int hip = pointAt(stance.hipX(leg), stance.hipY(leg));
            if (hip == NONE || trial.isTaken(hip, NONE)) {
                return false;
            }
            trial.feet.put(leg, hip);
            lowest = Math.min(lowest, land.mapped.at(hip));
            highest = Math.max(highest, land.mapped.at(hip));
        }
        return highest - lowest <= MOST_CLIMB && trial.holdsWithout(NONE);
    }

    // ---- what breaks

    /** Sets a foot that is up at a point. */
    private void setFoot(int leg, int point) {
        boolean stumbles = Math.abs(land.height.at(point) - land.mapped.at(point)) >= 2;
        land.learn(point);
        if (stumbles) {
            damage.tell(STUMBLED, point);
            return;
        }
        int lower = land.slipFrom(point);
        if (lower == NONE) {
            stance.feet.put(leg, point);
            return;
        }
        land.learn(lower);
        damage.tell(SLIPPED, point);
        if (stance.isInReach(leg, lower) && !stance.isTaken(lower, leg)) {
            stance.feet.put(leg, lower);
        }
    }

    /** What comes behind each act that is not refused; answers the first that the act broke. */
    private int settled() {
        if (stands) {
            int sinking = stance.sinking();
            for (int times = 0; sinking != 0 && times < MOST_LEGS; times++) {
                breakGround(sinking);
                stance.raise(sinking);
                sinking = stance.sinking();
            }
            if (!stance.holdsWithout(NONE)) {
                toppleOver();
            }
        }
        return damage.firstOfAct;
    }

    /** The ground gives way under some legs, a bit each. */
    private void breakGround(int legs) {
        for (int leg = 0; leg < MOST_LEGS; leg++) {
            if ((legs >> leg & 1) != 0) {
                int point = stance.feet.at(leg);
                land.sag(point);
                damage.tell(SANK, point);
            }
        }
    }

    private void toppleOver() {
        falls.keep(stance.direction(), damage.firstWhat, damage.firstPoint);
        stands = false;
        stance.feet.fill(NONE);
    }

    // ---- small helps

    private boolean isLeg(int leg) {
        return leg >= 0 && leg < frame.legs;
    }

    private static boolean isWithin(int value, int least, int most) {
        return value >= least && value <= most;
    }

    /** Whether a hip or a load can be so far from the body, in x or in y. */
    private static boolean isAside(int way) {
        return isWithin(way, -FARTHEST_OUT, FARTHEST_OUT);
    }

    private static int pointAt(int x, int y) {
        return x >= 0 && x < SIDE && y >= 0 && y < SIDE ? SIDE * y + x : NONE;
    }

    private static int xOf(int point) {
        return point % SIDE;
    }

    private static int yOf(int point) {
        return point / SIDE;
    }

    private static int roundedUp(int whole, int parts) {
        return parts <= 0 ? 0 : (whole + parts - 1) / parts;
    }

    /**
     * The bits of a float that is 0, or at least 2 to the power of -126. By hand, as the language's
     * rules leave no library for it; all steps are exact.
     */
    private static int bitsOf(float value) {
        if (value <= 0f) {
            return 0;
        }
        int exponent = 127;
        float part = value;
        for (int i = 0; i < 126 && part >= 2f; i++) {
            part = part / 2f;
            exponent++;
        }
        for (int i = 0; i < 126 && part < 1f; i++) {
            part = part * 2f;
            exponent--;
        }
        return exponent << 23 | (int) ((part - 1f) * 8388608f);
    }

    /** Whether the planner's goal is reached by so many moves more behind those that are made. */
    private static boolean isReachedBy(Planner planner, int made, int more) {
        int away = planner.away(made);
        if (away == 0) {
            return true;
        }
        // A move brings the body at most one point nearer.
        if (away > more || made >= MOST_MOVES) {
            return false;
        }
        for (int move = 0; move < Planner.MOVES; move++) {
            if (planner.isMade(made, move) && isReachedBy(planner, made + 1, more - 1)) {
                return true;
            }
        }
        return false;
    }

    /** The length of the shortest row of moves to the goal, all rows gone through; more than 3 without one. */
    private static int shortestRow(Planner planner, int made) {
        int least = planner.away(made) == 0 ? made : MOST_MOVES + 1;
        if (made >= MOST_MOVES) {
            return least;
        }
        for (int move = 0; move < Planner.MOVES; move++) {
            if (planner.isMade(made, move)) {
                least = Math.min(least, shortestRow(planner, made + 1));
            }
        }
        return least;
    }

    /** A row of numbers in which each index is looked at before it is used. */
    private static final class Row {
        private final int[] cells;

        Row(int size, int first) {
            cells = new int[size < 0 ? 0 : size];
            Arrays.fill(cells, first);
        }

        int at(int index) {
            return index >= 0 && index < cells.length ? cells[index] : 0;
        }

        void put(int index, int value) {
            if (index >= 0 && index < cells.length) {
                cells[index] = value;
            }
        }

        void fill(int value) {
            Arrays.fill(cells, value);
        }

        void copy(Row other) {
            for (int i = 0; i < cells.length; i++) {
                cells[i] = other.at(i);
            }
        }
    }

    /** The ground as it is, and as it is mapped. */
    private static final class Land {
        final Row height = new Row(POINTS, 0);
        final Row firmness = new Row(POINTS, FIRMEST);
        final Row grip = new Row(POINTS, BEST_GRIP);
        final Row mapped = new Row(POINTS, 0);

        void learn(int point) {
            mapped.put(point, height.at(point));
        }

        void sag(int point) {
            height.put(point, Math.max(0, height.at(point) - 1));
            learn(point);
        }

        /** The neighbour to which a foot slips from a point; NONE if it holds. */
        int slipFrom(int point) {
            int lowest = height.at(point) - grip.at(point);
            int lower = NONE;
            for (int way = 0; way < 4; way++) {
                int next = neighbour(point, way);
                if (next != NONE && height.at(next) < lowest) {
                    lowest = height.at(next);
                    lower = next;
                }
            }
            return lower;
        }

        /** The neighbours in the order of y, then x, so that the first of equally low ones is the one. */
        private static int neighbour(int point, int way) {
            int x = xOf(point);
            int y = yOf(point);
            switch (way) {
                case 0: return pointAt(x, y - 1);
                case 1: return pointAt(x - 1, y);
                case 2: return pointAt(x + 1, y);
                default: return pointAt(x, y + 1);
            }
        }
    }

    /** What of the machine stays as it moves: its legs, and its load. */
    private static final class Frame {
        final Row hipX = new Row(MOST_LEGS, 0);
        final Row hipY = new Row(MOST_LEGS, 0);
        final Row reach = new Row(MOST_LEGS, 0);
        int legs = 0;
        int loadWeight = 0;
        int loadX = 0;
        int loadY = 0;

        int join(int x, int y, int far) {
            int number = legs;
            hipX.put(number, x);
            hipY.put(number, y);
            reach.put(number, far);
            legs++;
            return number;
        }

        void carry(int weight, int x, int y) {
            loadWeight = weight;
            loadX = x;
            loadY = y;
        }

        int weight() {
            return OWN_WEIGHT + loadWeight;
        }
    }

    /** Where the body and the feet are. */
    private static final class Stance {
        final Land land;
        final Frame frame;
        final Hull hull;
        final Row feet = new Row(MOST_LEGS, NONE);
        int bodyX = 10;
        int bodyY = 10;

        Stance(Land land, Frame frame, Hull hull) {
            this.land = land;
            this.frame = frame;
            this.hull = hull;
        }

        void copy(Stance other) {
            bodyX = other.bodyX;
            bodyY = other.bodyY;
            feet.copy(other.feet);
        }

        int hipX(int leg) {
            return bodyX + frame.hipX.at(leg);
        }

        int hipY(int leg) {
            return bodyY + frame.hipY.at(leg);
        }

        boolean isInReach(int leg, int point) {
            int x = xOf(point) - hipX(leg);
            int y = yOf(point) - hipY(leg);
            int reach = frame.reach.at(leg);
            return x * x + y * y <= reach * reach;
        }

        int far(int leg, int point) {
            return Math.abs(xOf(point) - hipX(leg)) + Math.abs(yOf(point) - hipY(leg));
        }

        /** Whether a foot is down at the point, other than that of one leg. */
        boolean isTaken(int point, int but) {
            for (int leg = 0; leg < MOST_LEGS; leg++) {
                if (leg != but && feet.at(leg) == point) {
                    return true;
                }
            }
            return false;
        }

        int down() {
            int count = 0;
            for (int leg = 0; leg < MOST_LEGS; leg++) {
                if (feet.at(leg) != NONE) {
                    count++;
                }
            }
            return count;
        }

        /** The level without the foot of one leg. */
        int level(int but) {
            int level = 0;
            for (int leg = 0; leg < MOST_LEGS; leg++) {
                int point = feet.at(leg);
                if (leg != but && point != NONE) {
                    level = Math.max(level, land.mapped.at(point));
                }
            }
            return level;
        }

        int pressure() {
            return roundedUp(frame.weight(), down());
        }

        /** The legs whose feet sink now, a bit each. */
        int sinking() {
            int pressure = pressure();
            int legs = 0;
            for (int leg = 0; leg < MOST_LEGS; leg++) {
                int point = feet.at(leg);
                if (point != NONE && land.firmness.at(point) < pressure) {
                    legs |= 1 << leg;
                }
            }
            return legs;
        }

        /** Raises the feet of some legs, a bit each. */
        void raise(int legs) {
            for (int leg = 0; leg < MOST_LEGS; leg++) {
                if ((legs >> leg & 1) != 0) {
                    feet.put(leg, NONE);
                }
            }
        }

        /** Raises all feet that would sink, and leaves the ground; answers whether there were any. */
        boolean sinkAway() {
            int first = sinking();
            int sinking = first;
            for (int times = 0; sinking != 0 && times < MOST_LEGS; times++) {
                raise(sinking);
                sinking = sinking();
            }
            return first != 0;
        }

        /** The moment's x, times the weight. */
        int momentX() {
            return OWN_WEIGHT * bodyX + frame.loadWeight * (bodyX + frame.loadX);
        }

        /** The moment's y, times the weight. */
        int momentY() {
            return OWN_WEIGHT * bodyY + frame.loadWeight * (bodyY + frame.loadY);
        }

        /** Whether the machine is stable without the foot of one leg. */
        boolean holdsWithout(int but) {
            hull.wrap(feet, but);
            return hull.holds(momentX(), momentY(), frame.weight());
        }

        /** The direction of a fall from here. */
        int direction() {
            int count = 0;
            int sumX = 0;
            int sumY = 0;
            for (int leg = 0; leg < MOST_LEGS; leg++) {
                int point = feet.at(leg);
                if (point != NONE) {
                    count++;
                    sumX += xOf(point);
                    sumY += yOf(point);
                }
            }
            // Both sides times the weight and the count, so that nothing is rounded.
            int signX = Integer.signum(momentX() * count - sumX * frame.weight());
            int signY = Integer.signum(momentY() * count - sumY * frame.weight());
            return 3 * (signX + 1) + signY + 1;
        }

        /** Moves the body; answers whether the machine may be so. */
        boolean moveBody(int x, int y) {
            bodyX += x;
            bodyY += y;
            if (pointAt(bodyX, bodyY) == NONE) {
                return false;
            }
            for (int leg = 0; leg < MOST_LEGS; leg++) {
                int point = feet.at(leg);
                if (point != NONE && !isInReach(leg, point)) {
                    return false;
                }
            }
            return holdsWithout(NONE);
        }

        /** Steps with a leg to its foothold, by the map; answers whether it may. */
        boolean step(int leg) {
            if (feet.at(leg) != NONE && !holdsWithout(leg)) {
                return false;
            }
            int point = bestPoint(leg);
            if (point == NONE) {
                return false;
            }
            feet.put(leg, point);
            return true;
        }

        /**
         * The foothold of a leg, by rings of the same far round the hip. As no far in reach comes to 10,
         * points of the same cost are in one ring, which is gone through by y, then x.
         */
        int bestPoint(int leg) {
            int level = level(leg);
            int hipX = hipX(leg);
            int hipY = hipY(leg);
            int reach = frame.reach.at(leg);
            int best = NONE;
            int least = Integer.MAX_VALUE;
            for (int far = 0; far <= FARTHEST_REACHED && far < least; far++) {
                for (int wayY = -far; wayY <= far; wayY++) {
                    int wayX = far - Math.abs(wayY);
                    for (int side = -1; side <= 1; side += 2) {
                        int point = pointAt(hipX + side * wayX, hipY + wayY);
                        int climb = Math.abs(land.mapped.at(point) - level);
                        if (point != NONE && wayX * wayX + wayY * wayY <= reach * reach && climb <= MOST_CLIMB
                                && 10 * climb + far < least && !isTaken(point, leg)) {
                            least = 10 * climb + far;
                            best = point;
                        }
                    }
                }
            }
            return best;
        }
    }

    /** The hull of the feet that are down. */
    private static final class Hull {
        // Behind the last corner the first one stands again, so that each edge is from one to the next.
        final Row corners = new Row(MOST_LEGS + 1, NONE);
        private final Row points = new Row(MOST_LEGS, NONE);
        int size = 0;

        /** Finds the corners, without the foot of one leg: from the first one round, always the outermost next. */
        void wrap(Row feet, int but) {
            int count = 0;
            int start = POINTS;
            for (int leg = 0; leg < MOST_LEGS; leg++) {
                int point = feet.at(leg);
                if (leg != but && point != NONE) {
                    points.put(count, point);
                    count++;
                    start = Math.min(start, point);
                }
            }
            int from = start;
            for (size = 0; size < count && (size == 0 || from != start); size++) {
                corners.put(size, from);
                int next = from;
                for (int i = 0; i < count; i++) {
                    if (isFurtherOut(from, next, points.at(i))) {
                        next = points.at(i);
                    }
                }
                from = next;
            }
            corners.put(size, start);
        }

        /** Whether a point lies outside of the way from a corner to the next one, or on along it. */
        private static boolean isFurtherOut(int corner, int next, int point) {
            int nextX = next % SIDE - corner % SIDE;
            int nextY = next / SIDE - corner / SIDE;
            int pointX = point % SIDE - corner % SIDE;
            int pointY = point / SIDE - corner / SIDE;
            int turn = nextX * pointY - nextY * pointX;
            return turn < 0 || turn == 0
                    && pointX * pointX + pointY * pointY > nextX * nextX + nextY * nextY;
        }

        /** What the edge between two corners and the way from the first to a place, times a scale, make. */
        private static int edgeByWay(int from, int to, int x, int y, int scale) {
            return (to % SIDE - from % SIDE) * (y - scale * (from / SIDE))
                    - (to / SIDE - from / SIDE) * (x - scale * (from % SIDE));
        }

        private static int squareOfEdge(int from, int to) {
            int x = to % SIDE - from % SIDE;
            int y = to / SIDE - from / SIDE;
            return x * x + y * y;
        }

        /** Whether a place, its x and y told times a scale, is in the hull. */
        boolean holds(int x, int y, int scale) {
            int leastX = Integer.MAX_VALUE;
            int mostX = Integer.MIN_VALUE;
            int leastY = Integer.MAX_VALUE;
            int mostY = Integer.MIN_VALUE;
            for (int i = 0; i < size; i++) {
                int corner = corners.at(i);
                if (edgeByWay(corner, corners.at(i + 1), x, y, scale) < 0) {
                    return false;
                }
                leastX = Math.min(leastX, scale * (corner % SIDE));
                mostX = Math.max(mostX, scale * (corner % SIDE));
                leastY = Math.min(leastY, scale * (corner / SIDE));
                mostY = Math.max(mostY, scale * (corner / SIDE));
            }
            // A hull that is a line or a point has no inside that the edges could tell.
            return isWithin(x, leastX, mostX) && isWithin(y, leastY, mostY);
        }

        /** Of all edges the least square of the place's distance to the edge's line. */
        float leastSquare(int x, int y, int scale) {
            float least = 0f;
            for (int i = 0; i < size; i++) {
                int from = corners.at(i);
                int to = corners.at(i + 1);
                long made = edgeByWay(from, to, x, y, scale);
                long along = (long) squareOfEdge(from, to) * scale * scale;
                float square = along <= 0 ? 0f : (float) (made * made) / (float) along;
                if (i == 0 || square < least) {
                    least = square;
                }
            }
            return least;
        }
    }

    /** The points, lines and triangles that the feet make, seen from the moment. */
    private static final class Pieces {
        private final Row x = new Row(MOST_LEGS, 0);
        private final Row y = new Row(MOST_LEGS, 0);
        private int count = 0;

        void gather(Row feet, int momentX, int momentY, int scale) {
            count = 0;
            for (int leg = 0; leg < MOST_LEGS; leg++) {
                int point = feet.at(leg);
                if (point != NONE) {
                    x.put(count, scale * xOf(point) - momentX);
                    y.put(count, scale * yOf(point) - momentY);
                    count++;
                }
            }
        }

        /** Whether the moment is in one of the pieces. */
        boolean holdMoment() {
            for (int a = 0; a < count; a++) {
                if (x.at(a) == 0 && y.at(a) == 0) {
                    return true;
                }
                for (int b = a + 1; b < count; b++) {
                    if (isOnLine(a, b)) {
                        return true;
                    }
                    for (int c = b + 1; c < count; c++) {
                        if (isInTriangle(a, b, c)) {
                            return true;
                        }
                    }
                }
            }
            return false;
        }

        private boolean isOnLine(int a, int b) {
            return turn(a, b) == 0 && x.at(a) * x.at(b) + y.at(a) * y.at(b) <= 0;
        }

        private boolean isInTriangle(int a, int b, int c) {
            int ab = turn(a, b);
            int bc = turn(b, c);
            int ca = turn(c, a);
            if (ab + bc + ca == 0) {
                // Without a size it is no more than the lines between its points.
                return false;
            }
            return ab >= 0 && bc >= 0 && ca >= 0 || ab <= 0 && bc <= 0 && ca <= 0;
        }

        private int turn(int a, int b) {
            return x.at(a) * y.at(b) - y.at(a) * x.at(b);
        }
    }

    /** What was broken since the machine got up, and by the last act. */
    private static final class Damage {
        int count = 0;
        int firstWhat = 0;
        int firstPoint = NONE;
        int firstOfAct = 0;

        void forget() {
            count = 0;
            firstWhat = 0;
            firstPoint = NONE;
            firstOfAct = 0;
        }

        void beginAct() {
            firstOfAct = 0;
        }

        void tell(int what, int point) {
            if (count == 0) {
                firstWhat = what;
                firstPoint = point;
            }
            if (firstOfAct == 0) {
                firstOfAct = what;
            }
            count++;
        }
    }

    private static final class Falls {
        final Row direction = new Row(MOST_FALLS, 0);
        final Row what = new Row(MOST_FALLS, 0);
        final Row point = new Row(MOST_FALLS, NONE);
        int count = 0;

        int kept() {
            return Math.min(count, MOST_FALLS);
        }

        void keep(int way, int brokenWhat, int brokenPoint) {
            direction.put(count, way);
            what.put(count, brokenWhat);
            point.put(count, brokenPoint);
            count++;
        }
    }

    private static final class Gait {
        final Row leg = new Row(MOST_PHASES, 0);
        final Row footX = new Row(MOST_PHASES, 0);
        final Row footY = new Row(MOST_PHASES, 0);
        final Row bodyX = new Row(MOST_PHASES, 0);
        final Row bodyY = new Row(MOST_PHASES, 0);
        int count = 0;
        int next = 0;

        int add(int ofLeg, int x, int y, int alongX, int alongY) {
            leg.put(count, ofLeg);
            footX.put(count, x);
            footY.put(count, y);
            bodyX.put(count, alongX);
            bodyY.put(count, alongY);
            count++;
            return count;
        }

        void clear() {
            count = 0;
            next = 0;
        }

        void goOn() {
            next = next + 1 < count ? next + 1 : 0;
        }
    }

    /** Tries moves by the map: a stance behind each number of moves, made once and used again. */
    private static final class Planner {
        static final int MOVES = MOST_LEGS + 4;

        private final Frame frame;
        private final Stance[] behind = new Stance[MOST_MOVES + 1];
        private int goal = NONE;

        Planner(Land land, Frame frame, Hull hull) {
            this.frame = frame;
            for (int i = 0; i < behind.length; i++) {
                behind[i] = new Stance(land, frame, hull);
            }
        }

        void start(Stance stance, int point) {
            goal = point;
            if (behind.length > 0) {
                behind[0].copy(stance);
            }
        }

        /** How far the body is from the goal behind so many moves. */
        int away(int made) {
            if (made < 0 || made >= behind.length) {
                return POINTS;
            }
            return Math.abs(behind[made].bodyX - xOf(goal)) + Math.abs(behind[made].bodyY - yOf(goal));
        }

        /** Makes a move behind so many: those of the legs first, then the shifts; answers whether it may be. */
        boolean isMade(int made, int move) {
            if (made < 0 || made + 1 >= behind.length) {
                return false;
            }
            Stance next = behind[made + 1];
            next.copy(behind[made]);
            switch (move - MOST_LEGS) {
                case 0: return next.moveBody(-1, 0);
                case 1: return next.moveBody(1, 0);
                case 2: return next.moveBody(0, -1);
                case 3: return next.moveBody(0, 1);
                default: return move < frame.legs && next.step(move);
            }
        }
    }
}
