import java.util.ArrayList;
import java.util.Comparator;
import java.util.HashSet;
import java.util.List;
import java.util.Set;

/**
 * The document once more, as slowly and as near to its words as can be: what would be is found by doing
 * it on a copy, plans by doing the acts on copies, and stability by pieces alone. The random runs compare
 * the program with it.
 */
final class Model {
    record At(int x, int y) { }

    record Broken(int what, At where) { }

    record Fallen(int direction, Broken first) { }

    record Phase(int leg, int x, int y, int alongX, int alongY) { }

    static final class Leg {
        int outX;
        int outY;
        int reach;
        At foot;
    }

    private static final int NONE = -1;

    private final int[][] height = new int[20][20];
    private final int[][] firmness = new int[20][20];
    private final int[][] grip = new int[20][20];
    private final int[][] mapped = new int[20][20];
    private final List<Leg> legs = new ArrayList<>();
    private final List<Phase> gait = new ArrayList<>();
    private final List<Fallen> falls = new ArrayList<>();
    private final List<Broken> broken = new ArrayList<>();
    private int brokenBefore;
    private int next;
    private int bodyX = 10;
    private int bodyY = 10;
    private int weight;
    private int outX;
    private int outY;
    private int energy = 1000;
    private boolean stands;
    private boolean plans;

    Model() {
        for (int x = 0; x < 20; x++) {
            for (int y = 0; y < 20; y++) {
                firmness[x][y] = 99;
                grip[x][y] = 9;
            }
        }
    }

    private Model copy() {
        Model c = new Model();
        for (int x = 0; x < 20; x++) {
            c.height[x] = height[x].clone();
            c.firmness[x] = firmness[x].clone();
            c.grip[x] = grip[x].clone();
            c.mapped[x] = mapped[x].clone();
        }
        for (Leg leg : legs) {
            Leg l = new Leg();
            l.outX = leg.outX;
            l.outY = leg.outY;
            l.reach = leg.reach;
            l.foot = leg.foot;
            c.legs.add(l);
        }
        c.gait.addAll(gait);
        c.falls.addAll(falls);
        c.broken.addAll(broken);
        c.next = next;
        c.bodyX = bodyX;
        c.bodyY = bodyY;
        c.weight = weight;
        c.outX = outX;
        c.outY = outY;
        c.energy = energy;
        c.stands = stands;
        c.plans = plans;
        return c;
    }

    // ---- words

    private static boolean isPoint(int x, int y) {
        return 0 <= x && x <= 19 && 0 <= y && y <= 19;
    }

    private static void ask(boolean fine) {
        if (!fine) {
            throw new IllegalArgumentException();
        }
    }

    private static void allow(boolean fine) {
        if (!fine) {
            throw new IllegalStateException();
        }
    }

    private void askLeg(int leg) {
        if (leg < 0 || leg >= legs.size()) {
            throw new IndexOutOfBoundsException();
        }
    }

    private static boolean in(int v, int a, int b) {
        return a <= v && v <= b;
    }

    private At hip(Leg leg) {
        return new At(bodyX + leg.outX, bodyY + leg.outY);
    }

    private boolean reaches(Leg leg, At p) {
        At h = hip(leg);
        return (p.x - h.x) * (p.x - h.x) + (p.y - h.y) * (p.y - h.y) <= leg.reach * leg.reach;
    }

    private int far(Leg leg, At p) {
        At h = hip(leg);
        return Math.abs(p.x - h.x) + Math.abs(p.y - h.y);
    }

    private List<At> feet() {
        List<At> all = new ArrayList<>();
        for (Leg leg : legs) {
            if (leg.foot != null) {
                all.add(leg.foot);
            }
        }
        return all;
    }

    private int level() {
        return feet().stream().mapToInt(p -> mapped[p.x][p.y]).max().orElse(0);
    }

    private int pressure() {
        int n = feet().size();
        return n == 0 ? 0 : (int) Math.ceil((10.0 + weight) / n);
    }

    private long momentX() {
        return 10L * bodyX + (long) weight * (bodyX + outX);
    }

    private long momentY() {
        return 10L * bodyY + (long) weight * (bodyY + outY);
    }

    private static long turn(long ax, long ay, long bx, long by, long cx, long cy) {
        return (bx - ax) * (cy - ay) - (by - ay) * (cx - ax);
    }

    /** Whether the place (x, y), told times w, is in the piece that has these points alone as corners. */
    private static boolean inPiece(At a, At b, At c, long x, long y, long w) {
        long ab = turn(w * a.x, w * a.y, w * b.x, w * b.y, x, y);
        long bc = turn(w * b.x, w * b.y, w * c.x, w * c.y, x, y);
        long ca = turn(w * c.x, w * c.y, w * a.x, w * a.y, x, y);
        boolean side = ab >= 0 && bc >= 0 && ca >= 0 || ab <= 0 && bc <= 0 && ca <= 0;
        long lowX = w * Math.min(a.x, Math.min(b.x, c.x));
        long highX = w * Math.max(a.x, Math.max(b.x, c.x));
        long lowY = w * Math.min(a.y, Math.min(b.y, c.y));
        long highY = w * Math.max(a.y, Math.max(b.y, c.y));
        return side && lowX <= x && x <= highX && lowY <= y && y <= highY;
    }

    private static boolean inHull(List<At> points, long x, long y, long w) {
        for (At a : points) {
            for (At b : points) {
                for (At c : points) {
                    if (inPiece(a, b, c, x, y, w)) {
                        return true;
                    }
                }
            }
        }
        return false;
    }

    private boolean stable() {
        return inHull(feet(), momentX(), momentY(), 10 + weight);
    }

    /** The corners: the points that the others' hull does not have, by the angle that the first one sees. */
    private List<At> corners() {
        List<At> all = feet();
        List<At> found = new ArrayList<>();
        for (At p : all) {
            List<At> others = new ArrayList<>(all);
            others.remove(p);
            if (!inHull(others, p.x, p.y, 1)) {
                found.add(p);
            }
        }
        if (found.isEmpty()) {
            return found;
        }
        found.sort(Comparator.comparingInt((At p) -> p.y).thenComparingInt(p -> p.x));
        At first = found.remove(0);
        found.sort(Comparator.comparingDouble((At p) -> Math.atan2(p.y - first.y, p.x - first.x)));
        found.add(0, first);
        return found;
    }

    // ---- what is told

    int ground(int x, int y, int h, int f, int g) {
        ask(isPoint(x, y) && in(h, 0, 9) && in(f, 0, 99) && in(g, 0, 9));
        allow(!feet().contains(new At(x, y)));
        int before = height[x][y];
        height[x][y] = h;
        firmness[x][y] = f;
        grip[x][y] = g;
        return before;
    }

    int chart(int x, int y, int h) {
        ask(isPoint(x, y) && in(h, 0, 9));
        int before = mapped[x][y];
        mapped[x][y] = h;
        return before;
    }

    int leg(int x, int y, int reach) {
        ask(in(x, -5, 5) && in(y, -5, 5) && in(reach, 1, 6));
        allow(legs.size() < 6 && !stands);
        Leg leg = new Leg();
        leg.outX = x;
        leg.outY = y;
        leg.reach = reach;
        legs.add(leg);
        return legs.size() - 1;
    }

    int charge(int much) {
        ask(in(much, 1, 1000));
        energy = Math.min(1000, energy + much);
        return energy;
    }

    int phase(int leg, int x, int y, int alongX, int alongY) {
        askLeg(leg);
        ask(in(x, -6, 6) && in(y, -6, 6) && in(alongX, -1, 1) && in(alongY, -1, 1));
        allow(gait.size() < 8);
        gait.add(new Phase(leg, x, y, alongX, alongY));
        return gait.size();
    }

    int halt() {
        int before = gait.size();
        gait.clear();
        next = 0;
        return before;
    }

    // ---- acts

    private void pay(int cost) {
        allow(plans || energy >= cost);
        if (!plans) {
            energy -= cost;
        }
    }

    private void breaks(int what, At where) {
        broken.add(new Broken(what, where));
    }

    private int brokenByAct() {
        return broken.size() > brokenBefore ? broken.get(brokenBefore).what : 0;
    }

    private void set(Leg leg, At p) {
        if (plans) {
            leg.foot = p;
            return;
        }
        boolean stumbles = Math.abs(height[p.x][p.y] - mapped[p.x][p.y]) >= 2;
        mapped[p.x][p.y] = height[p.x][p.y];
        if (stumbles) {
            breaks(1, p);
            return;
        }
        List<At> lower = new ArrayList<>();
        for (int x = 0; x < 20; x++) {
            for (int y = 0; y < 20; y++) {
                boolean beside = Math.abs(x - p.x) + Math.abs(y - p.y) == 1;
                if (beside && height[p.x][p.y] - height[x][y] > grip[p.x][p.y]) {
                    lower.add(new At(x, y));
                }
            }
        }
        if (lower.isEmpty()) {
            leg.foot = p;
            return;
        }
        lower.sort(Comparator.comparingInt((At q) -> height[q.x][q.y]).thenComparingInt(q -> q.y)
                .thenComparingInt(q -> q.x));
        At to = lower.get(0);
        mapped[to.x][to.y] = height[to.x][to.y];
        breaks(3, p);
        if (reaches(leg, to) && !feet().contains(to)) {
            leg.foot = to;
        }
    }

    private void settle() {
        if (!stands || plans) {
            return;
        }
        boolean again = true;
        while (again) {
            again = false;
            int pressure = pressure();
            for (Leg leg : legs) {
                At p = leg.foot;
                if (p != null && firmness[p.x][p.y] < pressure) {
                    leg.foot = null;
                    height[p.x][p.y] = Math.max(0, height[p.x][p.y] - 1);
                    mapped[p.x][p.y] = height[p.x][p.y];
                    breaks(2, p);
                    again = true;
                }
            }
        }
        if (!stable()) {
            falls.add(new Fallen(direction(), broken.get(0)));
            stands = false;
            for (Leg leg : legs) {
                leg.foot = null;
            }
        }
    }

    private int direction() {
        List<At> feet = feet();
        if (feet.isEmpty()) {
            return 4;
        }
        long n = feet.size();
        long sumX = feet.stream().mapToLong(At::x).sum();
        long sumY = feet.stream().mapToLong(At::y).sum();
        int signX = Long.compare(momentX() * n, sumX * (10 + weight));
        int signY = Long.compare(momentY() * n, sumY * (10 + weight));
        return 3 * (signX + 1) + (signY + 1);
    }

    private void become(Model other) {
        for (int x = 0; x < 20; x++) {
            height[x] = other.height[x];
            firmness[x] = other.firmness[x];
            grip[x] = other.grip[x];
            mapped[x] = other.mapped[x];
        }
        legs.clear();
        legs.addAll(other.legs);
        falls.clear();
        falls.addAll(other.falls);
        broken.clear();
        broken.addAll(other.broken);
        brokenBefore = other.brokenBefore;
        bodyX = other.bodyX;
        bodyY = other.bodyY;
        weight = other.weight;
        outX = other.outX;
        outY = other.outY;
        energy = other.energy;
        stands = other.stands;
    }

    private interface Act {
        void on(Model model);
    }

    /** Does an act on a copy, so that a refused one changes nothing. */
    private int act(Act act) {
        Model c = copy();
        c.brokenBefore = c.broken.size();
        act.on(c);
        c.settle();
        become(c);
        return brokenByAct();
    }

    int load(int w, int x, int y) {
        ask(in(w, 0, 20) && in(x, -5, 5) && in(y, -5, 5));
        return act(m -> {
            m.weight = w;
            m.outX = x;
            m.outY = y;
            allow(!m.stands || m.stable());
        });
    }

    int rise() {
        act(m -> {
            allow(!m.stands && !m.legs.isEmpty());
            m.pay(20);
            Set<At> hips = new HashSet<>();
            for (Leg leg : m.legs) {
                At h = m.hip(leg);
                allow(isPoint(h.x, h.y) && hips.add(h));
            }
            for (At a : hips) {
                for (At b : hips) {
                    allow(m.mapped[a.x][a.y] - m.mapped[b.x][b.y] <= 2);
                }
            }
            allow(inHull(new ArrayList<>(hips), m.momentX(), m.momentY(), 10 + m.weight));
            m.stands = true;
            m.broken.clear();
            m.brokenBefore = 0;
            for (Leg leg : m.legs) {
                if (!m.feet().contains(m.hip(leg))) {
                    m.set(leg, m.hip(leg));
                }
            }
        });
        return feet().size();
    }

    int lift(int leg) {
        askLeg(leg);
        return act(m -> {
            allow(m.stands && m.legs.get(leg).foot != null);
            m.pay(1);
            m.legs.get(leg).foot = null;
            allow(m.stable());
        });
    }

    int place(int leg, int x, int y) {
        askLeg(leg);
        ask(isPoint(x, y));
        return act(m -> {
            Leg l = m.legs.get(leg);
            At p = new At(x, y);
            allow(m.stands && l.foot == null && m.reaches(l, p) && !m.feet().contains(p));
            allow(Math.abs(m.mapped[x][y] - m.level()) <= 2);
            m.pay(1 + m.far(l, p));
            m.set(l, p);
        });
    }

    int shift(int x, int y) {
        ask(in(x, -1, 1) && in(y, -1, 1) && (x != 0 || y != 0));
        return act(m -> {
            allow(m.stands);
            m.pay((int) Math.ceil((10.0 + m.weight) / 10));
            m.bodyX += x;
            m.bodyY += y;
            allow(isPoint(m.bodyX, m.bodyY));
            for (Leg leg : m.legs) {
                allow(leg.foot == null || m.reaches(leg, leg.foot));
            }
            allow(m.stable());
        });
    }

    private boolean phaseDone(Phase p) {
        At from = legs.get(p.leg).foot;
        try {
            if (from == null || lift(p.leg) != 0) {
                return false;
            }
            if (place(p.leg, from.x + p.x, from.y + p.y) != 0) {
                return false;
            }
            return p.alongX == 0 && p.alongY == 0 || shift(p.alongX, p.alongY) == 0;
        } catch (IllegalArgumentException | IllegalStateException e) {
            return false;
        }
    }

    int walk(int phases) {
        ask(in(phases, 1, 20));
        allow(!gait.isEmpty());
        int done = 0;
        while (done < phases && phaseDone(gait.get(next))) {
            next = (next + 1) % gait.size();
            done++;
        }
        return done;
    }

    // ---- what is asked

    int machine(int what) {
        ask(in(what, 0, 11));
        int[] all = {bodyX, bodyY, stands ? 1 : 0, energy, weight, level(), pressure(), feet().size(),
            broken.size(), falls.size(), legs.size(), gait.isEmpty() ? NONE : next};
        return all[what];
    }

    int foot(int leg, int what) {
        askLeg(leg);
        ask(in(what, 0, 2));
        At p = legs.get(leg).foot;
        if (p == null) {
            return what == 0 ? 0 : NONE;
        }
        return what == 0 ? 1 : what == 1 ? p.x : p.y;
    }

    int point(int x, int y, int what) {
        ask(isPoint(x, y) && in(what, 0, 3));
        return new int[][][] {height, firmness, grip, mapped}[what][x][y];
    }

    boolean isStable() {
        return stable();
    }

    int margin() {
        if (!stable()) {
            return Float.floatToIntBits(-1.0f);
        }
        List<At> corners = corners();
        if (corners.size() < 3) {
            return Float.floatToIntBits(0.0f);
        }
        long w = 10 + weight;
        float least = Float.POSITIVE_INFINITY;
        for (int i = 0; i < corners.size(); i++) {
            At a = corners.get(i);
            At b = corners.get((i + 1) % corners.size());
            long ex = b.x - a.x;
            long ey = b.y - a.y;
            long made = ex * (momentY() - w * a.y) - ey * (momentX() - w * a.x);
            least = Math.min(least, (float) (made * made) / (float) ((ex * ex + ey * ey) * w * w));
        }
        return Float.floatToIntBits(least);
    }

    int corner(int corner) {
        ask(corner >= 0);
        List<At> corners = corners();
        return corner < corners.size() ? 20 * corners.get(corner).y + corners.get(corner).x : NONE;
    }

    private At foothold(Leg leg) {
        At was = leg.foot;
        leg.foot = null;
        At best = null;
        int least = 0;
        for (int y = 0; y < 20; y++) {
            for (int x = 0; x < 20; x++) {
                At p = new At(x, y);
                int difference = Math.abs(mapped[x][y] - level());
                int cost = 10 * difference + far(leg, p);
                if (reaches(leg, p) && !feet().contains(p) && difference <= 2 && (best == null || cost < least)) {
                    best = p;
                    least = cost;
                }
            }
        }
        leg.foot = was;
        return best;
    }

    int foothold(int leg) {
        askLeg(leg);
        At p = foothold(legs.get(leg));
        return p == null ? NONE : 20 * p.y + p.x;
    }

    int wouldLift(int leg) {
        askLeg(leg);
        Model c = copy();
        try {
            int broke = c.lift(leg);
            return broke == 0 ? 0 : c.stands ? 1 : 2;
        } catch (IllegalStateException e) {
            return NONE;
        }
    }

    private List<Model> moves() {
        List<Model> all = new ArrayList<>();
        for (int leg = 0; leg < legs.size(); leg++) {
            Model c = copy();
            try {
                if (c.legs.get(leg).foot != null) {
                    c.lift(leg);
                }
                int to = c.foothold(leg);
                allow(to != NONE);
                c.place(leg, to % 20, to / 20);
                all.add(c);
            } catch (IllegalStateException e) {
                continue;
            }
        }
        for (int[] way : new int[][] {{1, 0}, {-1, 0}, {0, 1}, {0, -1}}) {
            Model c = copy();
            try {
                c.shift(way[0], way[1]);
                all.add(c);
            } catch (IllegalStateException e) {
                continue;
            }
        }
        return all;
    }

    int fewest(int x, int y) {
        ask(isPoint(x, y));
        if (!stands) {
            return NONE;
        }
        Model start = copy();
        start.plans = true;
        List<Model> wave = List.of(start);
        Set<List<Object>> seen = new HashSet<>();
        for (int moves = 0; moves <= 3; moves++) {
            List<Model> nextWave = new ArrayList<>();
            for (Model m : wave) {
                if (m.bodyX == x && m.bodyY == y) {
                    return moves;
                }
                List<Object> key = new ArrayList<>();
                key.add(new At(m.bodyX, m.bodyY));
                for (Leg leg : m.legs) {
                    key.add(leg.foot == null ? new At(NONE, NONE) : leg.foot);
                }
                if (moves < 3 && seen.add(key)) {
                    nextWave.addAll(m.moves());
                }
            }
            wave = nextWave;
        }
        return NONE;
    }

    int fall(int fall, int what) {
        if (fall < 0 || fall >= Math.min(40, falls.size())) {
            throw new IndexOutOfBoundsException();
        }
        ask(in(what, 0, 3));
        Fallen f = falls.get(fall);
        At p = f.first.where;
        return new int[] {f.direction, f.first.what, p.x, p.y}[what];
    }
}
