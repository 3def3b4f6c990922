/** The edges that 'Machine' in the document's terms names: reach, far, hips, level, pressure, moment and hull. */
public final class MachineEdgesTest {
    private static final int NONE = -1;
    private static final int MINUS_ONE = Float.floatToIntBits(-1.0f);

    public static void main(String[] args) {
        reachOfPlacing();
        reachOfShifting();
        reachOfFootholds();
        hipsBeyondAllPoints();
        firstPoint();
        lastPoint();
        planToTheFirstPoint();
        planFromTheFirstPoint();
        level();
        pressure();
        momentInSquare();
        momentOnLines();
        momentOnPoint();
        momentInTriangle();
        edgesOfLifting();
        edgesOfShifting();
        margins();
        corners();
        cornersAsTheyAre();
        Check.end();
    }

    private static boolean isInReach(int x, int y, int reach) {
        return x * x + y * y <= reach * reach;
    }

    /** Each reach, and each way from the hip: what is placed costs 1 and its far. */
    private static void reachOfPlacing() {
        Check.part("reach of placing");
        for (int reach = 1; reach <= 6; reach++) {
            for (int i = 0; i < 225; i++) {
                int x = i % 15 - 7;
                int y = i / 15 - 7;
                String name = "by " + x + ", " + y + " with " + reach;
                Gaitwright g = Build.wide(reach);
                if (isInReach(x, y, reach)) {
                    Check.due(name, 0, g.place(4, 10 + x, 10 + y));
                    Check.due(name + ", x", 10 + x, g.foot(4, 1));
                    Check.due(name + ", y", 10 + y, g.foot(4, 2));
                    Check.due(name + ", cost", 979 - 1 - Math.abs(x) - Math.abs(y), g.machine(3));
                } else {
                    String before = Build.sketch(g);
                    Check.isState(name, () -> g.place(4, 10 + x, 10 + y));
                    Check.due(name + ", unchanged", before, Build.sketch(g));
                }
            }
        }
    }

    private static void reachOfShifting() {
        Check.part("reach of shifting");
        for (int reach = 1; reach <= 6; reach++) {
            for (int i = 0; i < 169; i++) {
                int x = i % 13 - 6;
                int y = i / 13 - 6;
                for (int way = 0; way < 9; way++) {
                    if (isInReach(x, y, reach) && way != 4) {
                        shiftWithFoot(reach, x, y, way % 3 - 1, way / 3 - 1);
                    }
                }
            }
        }
    }

    private static void shiftWithFoot(int reach, int x, int y, int wayX, int wayY) {
        String name = "foot by " + x + ", " + y + " with " + reach + ", shift by " + wayX + ", " + wayY;
        Gaitwright g = Build.wide(reach);
        g.place(4, 10 + x, 10 + y);
        boolean isDue = isInReach(x - wayX, y - wayY, reach);
        if (isDue) {
            Check.due(name, 0, g.shift(wayX, wayY));
        } else {
            Check.isState(name, () -> g.shift(wayX, wayY));
        }
        Check.due(name + ", x", isDue ? 10 + wayX : 10, g.machine(0));
        Check.due(name + ", y", isDue ? 10 + wayY : 10, g.machine(1));
        Check.due(name + ", the foot stays", 10 + x, g.foot(4, 1));
        g.lift(4);
        int before = g.machine(0);
        Check.due(name + ", a foot that is up is no matter", 0, g.shift(g.machine(0) < 10 ? 1 : -1, 0));
        Check.due(name + ", then", 1, Math.abs(g.machine(0) - before));
    }

    /** All points in reach are mapped too high but one: that is the foothold. And none behind the reach is. */
    private static void reachOfFootholds() {
        Check.part("reach of footholds");
        for (int reach = 1; reach <= 6; reach++) {
            Gaitwright g = new Gaitwright();
            g.leg(0, 0, reach);
            for (int i = 0; i < 169; i++) {
                if (isInReach(i % 13 - 6, i / 13 - 6, reach)) {
                    g.chart(4 + i % 13, 4 + i / 13, 3);
                }
            }
            Check.due("none in reach " + reach, NONE, g.foothold(0));
            for (int i = 0; i < 169; i++) {
                int x = 4 + i % 13;
                int y = 4 + i / 13;
                if (isInReach(x - 10, y - 10, reach)) {
                    g.chart(x, y, 2);
                    Check.due("the one in reach " + reach, 20 * y + x, g.foothold(0));
                    g.chart(x, y, 3);
                }
            }
        }
    }

    /** A machine with four legs 5 out, its body so far along x or y from (10, 10), fallen, and on firm ground then. */
    private static Gaitwright fallenAside(int wayX, int wayY, int steps) {
        Gaitwright g = Build.lying(5, 6);
        soften(g, 9, 5, 5);
        g.rise();
        g.load(20, -5 * wayX, -5 * wayY);
        for (int i = 0; i < steps; i++) {
            Check.due("shifts", 0, g.shift(wayX, wayY));
        }
        g.load(20, -2 * wayX, -2 * wayY);
        for (int leg = 0; leg < 4 && g.machine(2) == 1; leg++) {
            if (g.wouldLift(leg) != NONE) {
                Check.due("30 by 3 is 10, and 9 does not hold", 2, g.lift(leg));
            }
        }
        return fallenAndFirm(g, 5, 5);
    }

    /** The same aslant, by a gait in so many steps, the last of them, if told, by the body alone. */
    private static Gaitwright fallenAslant(int wayX, int wayY, int steps, boolean isBodyAlone) {
        Gaitwright g = Build.lying(5, 6);
        int leastX = 5 + steps * wayX;
        int leastY = 5 + steps * wayY;
        soften(g, 5, leastX, leastY);
        g.rise();
        // Those on the line of the way go first: so the body stays on it, and on the line of the others.
        int first = wayX == wayY ? 0 : 1;
        for (int i = 0; i < 4; i++) {
            int leg = (i < 2 ? first : 1 - first) + i % 2 * 2;
            g.phase(leg, wayX, wayY, i == 3 ? wayX : 0, i == 3 ? wayY : 0);
        }
        for (int i = 0; i < steps; i++) {
            Check.due("walks", 4, g.walk(4));
        }
        g.halt();
        if (isBodyAlone) {
            Check.due("shifts", 0, g.shift(wayX, wayY));
        }
        Check.due("30 by 4 is 8, and 5 does not hold", 2, g.load(20, 0, 0));
        return fallenAndFirm(g, leastX, leastY);
    }

    /** Makes the ground so firm at four points, 10 from one another. */
    private static void soften(Gaitwright g, int firmness, int leastX, int leastY) {
        for (int i = 0; i < 4; i++) {
            g.ground(leastX + i % 2 * 10, leastY + i / 2 * 10, 0, firmness, 9);
        }
    }

    private static Gaitwright fallenAndFirm(Gaitwright g, int leastX, int leastY) {
        Check.due("lies", 0, g.machine(2));
        Check.due("fell", 1, g.machine(9));
        g.load(0, 0, 0);
        soften(g, 99, leastX, leastY);
        return g;
    }

    /** With the body 5 from an edge the hips are on the edge; with 4 they are beyond. */
    private static void hipsBeyondAllPoints() {
        Check.part("hips beyond all points");
        for (int[] way : new int[][] {{-1, 0}, {1, 0}, {0, -1}, {0, 1}}) {
            int most = way[0] + way[1] > 0 ? 4 : 5;
            hipsOnTheEdge(fallenAside(way[0], way[1], most));
            hipsBeyond(() -> fallenAside(way[0], way[1], most + 1), 10 + (most + 1) * way[0], 10 + (most + 1) * way[1]);
        }
        for (int[] way : new int[][] {{-1, -1}, {1, 1}, {1, -1}, {-1, 1}}) {
            int most = way[0] > 0 || way[1] > 0 ? 4 : 5;
            hipsOnTheEdge(fallenAslant(way[0], way[1], most, false));
            hipsBeyond(() -> fallenAslant(way[0], way[1], most, true), 10 + (most + 1) * way[0], 10 + (most + 1) * way[1]);
        }
    }

    private static void hipsOnTheEdge(Gaitwright g) {
        Check.due("rises", 4, g.rise());
        for (int leg = 0; leg < 4; leg++) {
            Check.due("foot x", g.machine(0) + 5 * Build.sideX(leg), g.foot(leg, 1));
            Check.due("foot y", g.machine(1) + 5 * Build.sideY(leg), g.foot(leg, 2));
        }
    }

    private static void hipsBeyond(Scene scene, int x, int y) {
        Picture.unchanged("hips beyond", IllegalStateException.class, scene, Gaitwright::rise);
        Gaitwright g = scene.make();
        Check.due("body x", x, g.machine(0));
        Check.due("body y", y, g.machine(1));
        for (int leg = 0; leg < 4; leg++) {
            int hipX = x + 5 * Build.sideX(leg);
            int hipY = y + 5 * Build.sideY(leg);
            int nearX = Math.max(0, Math.min(19, hipX));
            int nearY = Math.max(0, Math.min(19, hipY));
            Check.due("the foothold is on the edge", 20 * nearY + nearX, g.foothold(leg));
        }
    }

    /**
     * Four legs 5 out, reach 6, and a fifth and a sixth, of which the fifth comes to a corner of the ground, too.
     * The body is 2 nearer to that corner; the feet 4 and the one at that corner are up.
     */
    private static Gaitwright nearCorner(int leg, int way) {
        Gaitwright g = Build.lying(5, 6);
        g.leg(5 * way, 4 * way, 6);
        g.leg(0, 0, 6);
        g.rise();
        g.load(20, -3 * way, -3 * way);
        g.shift(way, way);
        g.shift(way, way);
        g.lift(leg);
        g.lift(4);
        return g;
    }

    /** The point (0, 0) is one like others. */
    private static void firstPoint() {
        Check.part("the first point");
        Gaitwright g = nearCorner(0, -1);
        Check.due("body", 8, g.machine(0));
        Check.due("before, the level", 0, g.machine(5));
        Check.due("before, corner 0", 115, g.corner(0));
        Check.due("places", 0, g.place(0, 0, 0));
        Check.due("down", 1, g.foot(0, 0));
        Check.due("x", 0, g.foot(0, 1));
        Check.due("y", 0, g.foot(0, 2));
        Check.due("corner 0", 0, g.corner(0));
        Check.isState("ground", () -> g.ground(0, 0, 0, 99, 9));
        Check.isState("a foot is there", () -> g.place(4, 0, 0));
        Check.due("mapped", 0, g.chart(0, 0, 7));
        Check.due("the level", 7, g.machine(5));
        g.chart(0, 0, 0);
        Check.due("pressure, by how many are down", 6, g.machine(6));
        Check.due("would lift", 0, g.wouldLift(0));
        Check.due("the load goes to its side", 0, g.load(20, 2, 2));
        g.lift(5);
        Check.due("stays stable by it", 0, g.load(20, -5, -5));
        Check.due("stable", true, g.isStable());
        Check.due("stable anew", true, g.isStableAnew());
        Check.due("would not lift", NONE, g.wouldLift(0));
        Check.isState("not stable without it", () -> g.lift(0));
        Check.due("the others down as well", 0, g.place(5, 12, 12));
        Check.due("the others down as well", 0, g.place(4, 8, 7));
        Check.due("six are down", 6, g.machine(7));
        Check.due("stable by that at the first point", true, g.isStable());
        Check.due("stable by that at the first point, anew", true, g.isStableAnew());
    }

    private static void lastPoint() {
        Check.part("the last point");
        Gaitwright g = nearCorner(2, 1);
        Check.due("body", 12, g.machine(0));
        Check.due("places", 0, g.place(2, 19, 19));
        Check.due("x", 19, g.foot(2, 1));
        Check.due("y", 19, g.foot(2, 2));
        Check.due("corner 2", 399, g.corner(2));
        Check.isState("ground", () -> g.ground(19, 19, 0, 99, 9));
        Check.isState("a foot is there", () -> g.place(4, 19, 19));
        g.chart(19, 19, 8);
        Check.due("the level", 8, g.machine(5));
        Check.due("would lift", 0, g.wouldLift(2));
    }

    /** All in reach of leg 0 but (0, 0) is mapped too high: that is its foothold, and the way to a wider hull. */
    private static void planToTheFirstPoint() {
        Check.part("a plan to the first point");
        Gaitwright g = Build.standing(5, 6);
        g.load(20, 3, 3);
        g.shift(-1, -1);
        g.shift(-1, -1);
        g.lift(0);
        for (int i = 1; i < 100; i++) {
            g.chart(i % 10, i / 10, 9);
        }
        Check.due("the foothold", 0, g.foothold(0));
        Check.due("there", 0, g.fewest(8, 8));
        // The moment is 2 more than the body in both, on the line from (15, 5) to (5, 15).
        Check.due("a step first", 2, g.fewest(7, 8));
        Check.due("a step first, anew", 2, g.fewestAnew(7, 8));
        g.chart(0, 0, 9);
        Check.due("no foothold", NONE, g.foothold(0));
        Check.due("no step", NONE, g.fewest(7, 8));
        Check.due("no step, anew", NONE, g.fewestAnew(7, 8));
    }

    /** Foot 0, of a shorter reach, is at (0, 0): it has to step ahead of a second shift, if it may. */
    private static void planFromTheFirstPoint() {
        Check.part("a plan from the first point");
        Gaitwright g = new Gaitwright();
        for (int leg = 0; leg < 4; leg++) {
            g.leg(5 * Build.sideX(leg), 5 * Build.sideY(leg), leg == 0 ? 5 : 6);
        }
        g.rise();
        g.load(20, 3, 3);
        g.shift(-1, -1);
        g.shift(-1, -1);
        g.lift(0);
        Check.due("places", 0, g.place(0, 0, 0));
        Check.due("one shift", 1, g.fewest(9, 8));
        Check.due("a step, and two shifts", 3, g.fewest(10, 8));
        Check.due("a step, and two shifts, anew", 3, g.fewestAnew(10, 8));
        g.load(20, 0, 0);
        Check.due("one shift", 1, g.fewest(9, 8));
        Check.due("not stable without it", NONE, g.fewest(10, 8));
        Check.due("not stable without it, anew", NONE, g.fewestAnew(10, 8));
    }

    private static void level() {
        Check.part("level");
        Gaitwright g = Build.lying(2, 3);
        g.chart(10, 10, 9);
        g.chart(8, 8, 1);
        g.chart(12, 8, 2);
        g.chart(12, 12, 1);
        for (int i = 0; i < 4; i++) {
            g.ground(10 + 2 * Build.sideX(i), 10 + 2 * Build.sideY(i), 1, 99, 9);
        }
        Check.due("none is down", 0, g.machine(5));
        g.rise();
        Check.due("all are mapped 1 then", 1, g.machine(5));
        g.chart(12, 8, 9);
        Check.due("the greatest", 9, g.machine(5));
        g.lift(1);
        Check.due("a foot that is up is no matter", 1, g.machine(5));
        g.chart(8, 8, 0);
        g.chart(12, 12, 0);
        g.chart(8, 12, 0);
        Check.due("the least", 0, g.machine(5));
    }

    private static void pressure() {
        Check.part("pressure");
        for (int weight = 0; weight <= 20; weight++) {
            Gaitwright g = Build.withHips(3, 0, 0, -1, 0, 1, 0, 0, -1, 0, 1, 2, 2);
            Check.due("none is down", 0, g.machine(6));
            g.load(weight, 0, 0);
            Check.due("none is down, with a load", 0, g.machine(6));
            g.rise();
            for (int down = 6; down >= 1; down--) {
                Check.due("how many are down", down, g.machine(7));
                int due = (10 + weight) / down + ((10 + weight) % down == 0 ? 0 : 1);
                Check.due(10 + weight + " by " + down, due, g.machine(6));
                if (down > 1) {
                    Check.due("lifts", 0, g.lift(down - 1));
                }
            }
        }
    }

    private interface Held {
        /** Whether a moment so far from the body, times the weight, is held. */
        boolean at(int x, int y, int weight);
    }

    /** Tells each load that there is: it is taken if the moment is in the hull then, and refused if not. */
    private static void loads(String name, Held held, int reach, int... hips) {
        for (int i = 0; i < 121 * 21; i++) {
            int load = i / 121;
            int x = i % 121 % 11 - 5;
            int y = i % 121 / 11 - 5;
            Gaitwright g = Build.withHips(reach, hips);
            g.rise();
            String call = name + ", load of " + load + " at " + x + ", " + y;
            boolean isDue = held.at(load * x, load * y, 10 + load);
            if (isDue) {
                Check.due(call, 0, g.load(load, x, y));
            } else {
                Check.isState(call, () -> g.load(load, x, y));
            }
            Check.due(call + ", then", isDue ? load : 0, g.machine(4));
            Check.due(call + ", stands", 1, g.machine(2));
            Check.due(call + ", stable", true, g.isStable());
            Check.due(call + ", stable anew", true, g.isStableAnew());
            Gaitwright lying = Build.withHips(reach, hips);
            lying.load(load, x, y);
            if (isDue) {
                Check.due(call + ", rises", hips.length / 2, lying.rise());
            } else {
                Check.isState(call + ", rises", lying::rise);
            }
        }
    }

    private static void momentInSquare() {
        Check.part("moment in a square");
        for (int out = 1; out <= 3; out++) {
            int half = out;
            loads("square of " + out, (x, y, w) -> Math.abs(x) <= half * w && Math.abs(y) <= half * w, 3,
                    -out, -out, out, -out, out, out, -out, out);
        }
    }

    private static void momentOnLines() {
        Check.part("moment on lines");
        loads("along x", (x, y, w) -> y == 0 && -2 * w <= x && x <= 3 * w, 3, -2, 0, 3, 0);
        loads("along y", (x, y, w) -> x == 0 && -3 * w <= y && y <= 2 * w, 3, 0, 2, 0, -3);
        loads("aslant", (x, y, w) -> x == y && -w <= x && x <= 2 * w, 3, -1, -1, 2, 2, 1, 1);
        loads("aslant the other way", (x, y, w) -> x == -2 * y && -w <= y && y <= w, 3, -2, 1, 2, -1);
    }

    private static void momentOnPoint() {
        Check.part("moment on a point");
        loads("point", (x, y, w) -> x == 0 && y == 0, 3, 0, 0);
        Check.isState("beside the point", () -> Build.withHips(3, 1, 0).rise());
        Check.isState("beside the point", () -> Build.withHips(3, 0, -1).rise());
        Scene moved = () -> {
            Gaitwright g = Build.withHips(3, 1, 0);
            g.load(10, 2, 0);
            return g;
        };
        Check.due("the moment is over it", 1, moved.make().rise());
    }

    private static void momentInTriangle() {
        Check.part("moment in a triangle");
        // Corners (-1, 2), (2, -1) and (-2, -2), from the body: edges x + y = 1, 4x - y = -6 and x - 4y = 6.
        loads("triangle", (x, y, w) -> x + y <= w && 4 * x - y >= -6 * w && x - 4 * y <= 6 * w, 3,
                -1, 2, 2, -1, -2, -2);
    }

    private static void edgesOfLifting() {
        Check.part("lifting, by the hull that is left");
        // Without leg 0 the hull is the triangle above the line from (12, 8) to (8, 12), through the body.
        for (int i = 0; i < 121; i++) {
            int x = i % 11 - 5;
            int y = i / 11 - 5;
            Gaitwright g = Build.standing(2, 3);
            g.load(1, x, y);
            boolean isDue = x + y >= 0;
            Check.due("would lift with a load at " + x + ", " + y, isDue ? 0 : NONE, g.wouldLift(0));
            if (isDue) {
                Check.due("lifts", 0, g.lift(0));
            } else {
                Check.isState("does not lift", () -> g.lift(0));
            }
            Check.due("the foot", isDue ? 0 : 1, g.foot(0, 0));
        }
    }

    private static void edgesOfShifting() {
        Check.part("shifting, by the hull");
        for (int way = 0; way < 9; way++) {
            int x = way % 3 - 1;
            int y = way / 3 - 1;
            if (way == 4) {
                continue;
            }
            Gaitwright g = Build.standing(2, 6);
            for (int i = 0; i < 2; i++) {
                Check.due("onto the edge", 0, g.shift(x, y));
            }
            Check.due("margin on the edge", 0, g.margin());
            Check.isState("beyond the edge", () -> g.shift(x, y));
            Check.due("x", 10 + 2 * x, g.machine(0));
            Check.due("y", 10 + 2 * y, g.machine(1));
            Gaitwright h = Build.standing(2, 6);
            h.load(1, 5 * x, 5 * y);
            Check.due("with a load of 1 at 5 it is 5 of 11 further", 0, h.shift(x, y));
            Check.isState("so there is no second", () -> h.shift(x, y));
        }
    }

    private static void margins() {
        Check.part("margin, its edges");
        Gaitwright none = Build.lying(2, 3);
        Check.due("lying", MINUS_ONE, none.margin());
        Gaitwright point = Build.withHips(3, 0, 0);
        point.rise();
        Check.due("a point", 0, point.margin());
        Gaitwright line = Build.withHips(3, -2, -2, 2, 2, 1, 1, 0, 0);
        line.rise();
        Check.due("a line of four", 0, line.margin());
        Gaitwright thin = Build.withHips(6, -5, 0, 5, 0, 0, 1);
        thin.rise();
        Check.due("on an edge of a thin one", 0, thin.margin());
        thin.load(1, 0, 1);
        Check.due("1 of 11 beside it", Float.floatToIntBits((float) (100L) / (float) (100L * 121L)), thin.margin());
        Gaitwright corner = Build.standing(2, 6);
        for (int i = 0; i < 2; i++) {
            corner.shift(1, 1);
        }
        Check.due("on a corner", 0, corner.margin());
        // The greatest: all four edges 5 away, and 5 less what the load puts aside.
        Gaitwright wide = Build.standing(5, 6);
        Check.due("in the middle of the widest", Float.floatToIntBits(25.0f), wide.margin());
        for (int load = 1; load <= 20; load++) {
            int[][] ways = {{5, 0}, {-5, 0}, {0, 5}, {0, -5}};
            for (int[] way : ways) {
                wide.load(load, way[0], way[1]);
                long made = 10L * (5L * (10 + load) - 5L * load);
                long along = 100L * (10 + load) * (10 + load);
                Check.due("load of " + load, Float.floatToIntBits((float) (made * made) / (float) along),
                        wide.margin());
            }
        }
    }

    private static void corners() {
        Check.part("corners, their edges");
        Gaitwright two = Build.withHips(3, 2, 0, -2, 0);
        two.rise();
        Check.due("of several with the least y that with the least x", 208, two.corner(0));
        Check.due("the other end", 212, two.corner(1));
        Check.due("no third", NONE, two.corner(2));
        Gaitwright up = Build.withHips(3, 0, 2, 0, -2, 0, 0);
        up.rise();
        Check.due("the least y", 170, up.corner(0));
        Check.due("the other end", 250, up.corner(1));
        Check.due("points within an edge are none", NONE, up.corner(2));
        Gaitwright back = Build.withHips(3, 2, -1, -2, 1);
        back.rise();
        Check.due("the least y, not the least x", 192, back.corner(0));
        Check.due("the other end", 228, back.corner(1));
        Check.due("no third", NONE, back.corner(2));
        Gaitwright turn = Build.withHips(3, 0, 2, -2, -1, 2, -1);
        turn.rise();
        Check.due("first", 188, turn.corner(0));
        Check.due("along x, y grows to the inside", 192, turn.corner(1));
        Check.due("then", 250, turn.corner(2));
        Check.due("no fourth", NONE, turn.corner(3));
        Gaitwright inside = Build.withHips(3, -2, -2, 2, -2, 2, 2, -2, 2, 0, 0, 0, 2);
        inside.rise();
        int[] due = {168, 172, 252, 248, NONE, NONE, NONE};
        for (int i = 0; i < due.length; i++) {
            Check.due("one inside, and one within an edge", due[i], inside.corner(i));
        }
    }

    /** Corners and margin are those of the feet as they are, whatever was asked, refused, or fell, just before. */
    private static void cornersAsTheyAre() {
        Check.part("corners, behind other calls");
        Gaitwright g = Build.standing(2, 6);
        g.wouldLift(0);
        Check.due("behind what would be", 168, g.corner(0));
        g.fewest(11, 12);
        Check.due("behind a plan", 168, g.corner(0));
        g.fewestAnew(11, 12);
        Check.due("behind a plan anew", 168, g.corner(0));
        g.load(1, 0, -5);
        Check.isState("refused", () -> g.lift(0));
        Check.due("behind a refused lift", 168, g.corner(0));
        Check.due("margin", Float.floatToIntBits((float) (68L * 68L) / (float) (16L * 121L)), g.margin());
        Check.isState("refused", () -> g.load(20, 0, -5));
        Check.due("behind a refused load", 252, g.corner(2));
        g.lift(2);
        Check.due("behind a lift", 248, g.corner(2));
        Gaitwright fallen = Build.lying(2, 3);
        fallen.ground(8, 8, 0, 3, 9);
        fallen.ground(12, 8, 0, 3, 9);
        fallen.rise();
        fallen.load(3, 0, 0);
        Check.due("behind a fall", NONE, fallen.corner(0));
        Check.due("margin behind a fall", MINUS_ONE, fallen.margin());
        Gaitwright refused = Build.withHips(3, 1, 0);
        Check.isState("refused", refused::rise);
        Check.due("behind a refused rise", NONE, refused.corner(0));
        Check.due("margin behind a refused rise", MINUS_ONE, refused.margin());
    }
}
