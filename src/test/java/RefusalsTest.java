/**
 * Each cause for which an act is refused, alone: just at it, with all unchanged behind the refused call, and
 * just short of it, where the act is done.
 */
public final class RefusalsTest {
    private static final int NONE = -1;

    public static void main(String[] args) {
        liftWithoutEnergy();
        liftRefused();
        liftUnstable();
        placeWithoutEnergy();
        placeRefused();
        placeByTheMap();
        shiftWithoutEnergy();
        shiftRefused();
        shiftBeyondTheEdges();
        loadRefused();
        riseWithoutEnergy();
        riseRefused();
        riseByTheMap();
        groundUnderFeet();
        legsAsItStands();
        lyingAllows();
        poorAllows();
        Check.end();
    }

    private static void refused(String what, Scene scene, Picture.Act act) {
        Picture.unchanged(what, IllegalStateException.class, scene, act);
    }

    /** That the act is done and nothing breaks, and what it costs. */
    private static Gaitwright done(String what, Scene scene, int cost, Picture.Act act) {
        Gaitwright g = scene.make();
        int before = g.machine(3);
        Check.due(what, "0", Check.answerOf(() -> act.on(g)));
        Check.due(what + ", cost", cost, before - g.machine(3));
        return g;
    }

    private static Gaitwright wide() {
        return Build.wide(6);
    }

    private static Gaitwright four() {
        return Build.standing(2, 3);
    }

    private static Gaitwright fourLying() {
        return Build.lying(2, 3);
    }

    private static void liftWithoutEnergy() {
        Check.part("lift, energy");
        refused("0 of 1", () -> Build.poor(0), g -> g.lift(4));
        Check.due("would not", NONE, Build.poor(0).wouldLift(4));
        Check.due("would", 0, Build.poor(1).wouldLift(4));
        Gaitwright g = done("1 of 1", () -> Build.poor(1), 1, m -> m.lift(4));
        Check.due("up", 0, g.foot(4, 0));
        Check.due("nothing is left", 0, g.machine(3));
    }

    private static void liftRefused() {
        Check.part("lift, refused");
        refused("lying", RefusalsTest::fourLying, g -> g.lift(0));
        refused("its foot is up", RefusalsTest::wide, g -> g.lift(4));
        Check.due("would not, lying", NONE, fourLying().wouldLift(0));
        Check.due("would not, its foot is up", NONE, wide().wouldLift(4));
        done("its foot is down", () -> Build.poor(900), 1, g -> g.lift(4));
    }

    private static void liftUnstable() {
        Check.part("lift, stable without it");
        Scene edge = RefusalsTest::four;
        Gaitwright g = done("on the edge", edge, 1, m -> m.lift(0));
        Check.due("stands", 1, g.machine(2));
        Scene beside = edge.with(m -> m.load(1, 0, -1));
        Check.due("would not", NONE, beside.make().wouldLift(0));
        refused("1 of 11 beside the edge", beside, m -> m.lift(0));
        Scene line = edge.with(m -> m.lift(0));
        refused("of three", line, m -> m.lift(1));
        done("of three, to a line", line, 1, m -> m.lift(2));
        Scene two = line.with(m -> m.lift(2));
        refused("of two", two, m -> m.lift(1));
        refused("of two, the other", two, m -> m.lift(3));
        Scene twoAndOne = () -> {
            Gaitwright m = Build.withHips(3, 0, 0, 1, 0);
            m.rise();
            return m;
        };
        done("to a point", twoAndOne, 1, m -> m.lift(1));
        refused("from the point", twoAndOne, m -> m.lift(0));
        refused("the last", twoAndOne.with(m -> m.lift(1)), m -> m.lift(0));
    }

    private static void placeWithoutEnergy() {
        Check.part("place, energy");
        int[][] ways = {{0, 0}, {1, 0}, {0, -1}, {1, 1}, {-2, 0}, {-2, 1}, {2, -2}, {3, 1}, {-3, -3}, {0, 6}, {4, 4}, {-5, 3}};
        for (int[] way : ways) {
            int cost = 1 + Math.abs(way[0]) + Math.abs(way[1]);
            String name = way[0] + ", " + way[1];
            Picture.Act act = g -> g.place(4, 10 + way[0], 10 + way[1]);
            refused(cost - 1 + " of " + cost + " by " + name, () -> Build.poorAndUp(cost - 1), act);
            Gaitwright g = done("just " + cost + " by " + name, () -> Build.poorAndUp(cost), cost, act);
            Check.due("down", 1, g.foot(4, 0));
            Check.due("nothing is left", 0, g.machine(3));
        }
    }

    private static void placeRefused() {
        Check.part("place, refused");
        refused("lying", RefusalsTest::fourLying, g -> g.place(0, 8, 8));
        refused("its foot is down", RefusalsTest::four, g -> g.place(0, 8, 9));
        refused("its foot is down there", RefusalsTest::four, g -> g.place(0, 8, 8));
        done("its foot is up", ((Scene) RefusalsTest::four).with(g -> g.lift(0)), 1, g -> g.place(0, 8, 8));
        // Leg 4 at the body and reach 5: (3, 4) away is just in reach, (5, 1) is just out of it.
        Scene five = () -> Build.wide(5);
        done("just in reach", five, 8, g -> g.place(4, 13, 14));
        done("just in reach, straight", five, 6, g -> g.place(4, 5, 10));
        refused("just out of reach", five, g -> g.place(4, 15, 11));
        refused("just out of reach, straight", five, g -> g.place(4, 10, 16));
        Scene free = Build::withFreeFoot;
        for (int leg = 0; leg < 4; leg++) {
            int x = 10 + 2 * Build.sideX(leg);
            int y = 10 + 2 * Build.sideY(leg);
            refused("foot " + leg + " is there", free, g -> g.place(4, x, y));
            done("beside foot " + leg, free, 1 + 2 + 1, g -> g.place(4, x, y < 10 ? y + 1 : y - 1));
        }
        done("where a foot was", free.with(g -> g.lift(0)), 1 + 4, g -> g.place(4, 8, 8));
    }

    /** Each level, and each mapped height. */
    private static void placeByTheMap() {
        Check.part("place, by the map");
        for (int i = 0; i < 100; i++) {
            int level = i / 10;
            int mapped = i % 10;
            Scene scene = ((Scene) Build::withFreeFoot).with(g -> {
                g.chart(8, 8, level);
                g.ground(10, 10, mapped, 99, 9);
                g.chart(10, 10, mapped);
            });
            String name = "level " + level + ", mapped " + mapped;
            if (Math.abs(mapped - level) <= 2) {
                done(name, scene, 1, g -> g.place(4, 10, 10));
            } else {
                refused(name, scene, g -> g.place(4, 10, 10));
            }
        }
        Scene high = ((Scene) Build::withFreeFoot).with(g -> g.ground(10, 10, 9, 99, 9));
        Check.due("the ground as it is is no matter: it stumbles", 1, high.make().place(4, 10, 10));
    }

    private static void shiftWithoutEnergy() {
        Check.part("shift, energy");
        for (int i = 0; i <= 20; i++) {
            int load = i;
            int cost = load == 0 ? 1 : load <= 10 ? 2 : 3;
            refused(cost - 1 + " of " + cost + ", load " + load,
                    ((Scene) () -> Build.poor(cost - 1)).with(g -> g.load(load, 0, 0)), g -> g.shift(1, -1));
            Gaitwright g = done("just " + cost + ", load " + load,
                    ((Scene) () -> Build.poor(cost)).with(m -> m.load(load, 0, 0)), cost, m -> m.shift(1, -1));
            Check.due("nothing is left", 0, g.machine(3));
            Check.due("x", 11, g.machine(0));
            Check.due("y", 9, g.machine(1));
        }
    }

    private static void shiftRefused() {
        Check.part("shift, refused");
        refused("lying", RefusalsTest::fourLying, g -> g.shift(1, 0));
        Scene shortLegs = () -> Build.standing(2, 1);
        done("just in reach", shortLegs, 1, g -> g.shift(0, -1));
        refused("out of reach, aslant", shortLegs, g -> g.shift(1, 1));
        refused("out of reach, twice", shortLegs.with(g -> g.shift(0, -1)), g -> g.shift(0, -1));
        // One leg alone is short: it is refused by that one, whichever it is.
        for (int i = 0; i < 4; i++) {
            int leg = i;
            Scene oneShort = () -> {
                Gaitwright g = new Gaitwright();
                for (int n = 0; n < 4; n++) {
                    g.leg(n == 0 || n == 3 ? -2 : 2, n < 2 ? -2 : 2, n == leg ? 1 : 4);
                }
                g.rise();
                return g;
            };
            refused("out of reach of leg " + leg, oneShort, g -> g.shift(-1, 1));
            done("in reach of leg " + leg, oneShort, 1, g -> g.shift(-1, 0));
        }
        Scene longLegs = () -> Build.standing(2, 6);
        int[][] ways = {{1, 0}, {-1, 0}, {0, 1}, {0, -1}, {1, 1}, {-1, -1}, {1, -1}, {-1, 1}};
        for (int[] way : ways) {
            Scene once = longLegs.with(g -> g.shift(way[0], way[1]));
            done("to the edge of the hull", once, 1, g -> g.shift(way[0], way[1]));
            refused("beyond the edge of the hull", once.with(g -> g.shift(way[0], way[1])),
                    g -> g.shift(way[0], way[1]));
            // With a load of 1 at 5 it is beyond by 5 of 11 of a point.
            refused("beyond by a fraction", once.with(g -> g.load(1, 5 * way[0], 5 * way[1])),
                    g -> g.shift(way[0], way[1]));
        }
    }

    /**
     * A machine whose body is on the last point that there is, with feet that are in reach also one further, and
     * a load that keeps it stable also there: that there is no such point is all that is wrong.
     */
    private static Gaitwright atTheEdge(int wayX, int wayY) {
        Gaitwright g = Build.walker(wayX, wayY);
        int gaits = wayX + wayY > 0 ? 9 : 10;
        for (int i = 0; i < gaits; i++) {
            Check.due("walks", 5, g.walk(5));
        }
        g.halt();
        Check.due("the moment is 1 further back", 0, g.load(10, -2 * wayX, -2 * wayY));
        return g;
    }

    private static void shiftBeyondTheEdges() {
        Check.part("shift, beyond all points");
        for (int[] way : new int[][] {{1, 0}, {-1, 0}, {0, 1}, {0, -1}}) {
            Scene edge = () -> atTheEdge(way[0], way[1]);
            Gaitwright g = edge.make();
            Check.due("x", way[0] == 0 ? 10 : way[0] < 0 ? 0 : 19, g.machine(0));
            Check.due("y", way[1] == 0 ? 10 : way[1] < 0 ? 0 : 19, g.machine(1));
            refused("beyond", edge, m -> m.shift(way[0], way[1]));
            done("back", edge, 2, m -> m.shift(-way[0], -way[1]));
            done("and on the last point again", edge.with(m -> m.shift(-way[0], -way[1])), 2,
                    m -> m.shift(way[0], way[1]));
            Check.due("no plan goes there", 0, g.fewest(g.machine(0), g.machine(1)));
            Check.due("one back", 1, g.fewest(g.machine(0) - way[0], g.machine(1) - way[1]));
        }
    }

    private static void loadRefused() {
        Check.part("load, refused");
        Scene four = RefusalsTest::four;
        done("on the edge", four, 0, g -> g.load(10, 4, 0));
        refused("beyond the edge", four, g -> g.load(11, 4, 0));
        done("on the corner", four, 0, g -> g.load(20, -3, 3));
        refused("beyond the corner", four, g -> g.load(20, -4, 4));
        Scene loaded = four.with(g -> g.load(10, 4, 0));
        refused("in place of another", loaded, g -> g.load(20, 4, 0));
        refused("of the same weight elsewhere", loaded, g -> g.load(10, 5, 0));
        done("none at all", loaded, 0, g -> g.load(0, 5, 5));
        Check.due("the load is in place of the other", 0, done("none at all", loaded, 0, g -> g.load(0, 0, 0)).machine(4));
        done("without energy", () -> Build.poor(0), 0, g -> g.load(20, 5, 5));
        done("lying, whatever", RefusalsTest::fourLying, 0, g -> g.load(20, -5, 5));
        refused("so it can't rise", ((Scene) RefusalsTest::fourLying).with(g -> g.load(20, -5, 5)), Gaitwright::rise);
    }

    /** Lies with this energy: soft ground under all feet lets it fall as often as is needed. */
    private static Gaitwright fallenWith(int left) {
        Gaitwright g = Build.lying(2, 3);
        soften(g, 2);
        for (int i = 0; i < 50; i++) {
            g.rise();
        }
        if (left > 0) {
            g.charge(left);
        }
        soften(g, 99);
        return g;
    }

    private static void soften(Gaitwright g, int firmness) {
        for (int i = 0; i < 4; i++) {
            g.ground(10 + 2 * Build.sideX(i), 10 + 2 * Build.sideY(i), 0, firmness, 9);
        }
    }

    private static void riseWithoutEnergy() {
        Check.part("rise, energy");
        refused("0 of 20", () -> fallenWith(0), Gaitwright::rise);
        refused("19 of 20", () -> fallenWith(19), Gaitwright::rise);
        Gaitwright g = fallenWith(20);
        Check.due("20 of 20", 4, g.rise());
        Check.due("nothing is left", 0, g.machine(3));
        Gaitwright more = fallenWith(21);
        Check.due("21 of 20", 4, more.rise());
        Check.due("1 is left", 1, more.machine(3));
    }

    private static void riseRefused() {
        Check.part("rise, refused");
        refused("it stands", RefusalsTest::four, Gaitwright::rise);
        refused("it stands, a foot is up", ((Scene) RefusalsTest::four).with(g -> g.lift(0)), Gaitwright::rise);
        refused("no legs", Gaitwright::new, Gaitwright::rise);
        for (int twin = 0; twin < 4; twin++) {
            int x = twin == 0 || twin == 3 ? -2 : 2;
            int y = twin < 2 ? -2 : 2;
            refused("the same hip as leg " + twin, ((Scene) RefusalsTest::fourLying).with(g -> g.leg(x, y, 3)),
                    Gaitwright::rise);
        }
        Check.due("beside", 5, ((Scene) RefusalsTest::fourLying).with(g -> g.leg(-2, -1, 3)).make().rise());
        refused("one leg aside", () -> Build.withHips(6, 1, 0), Gaitwright::rise);
        Check.due("one leg under the body", 1, Build.withHips(6, 0, 0).rise());
        refused("two beside the body", () -> Build.withHips(6, -2, 1, 2, 1), Gaitwright::rise);
        Check.due("two on both sides", 2, Build.withHips(6, -2, 1, 2, -1).rise());
        refused("three beside the body", () -> Build.withHips(6, 1, -2, 1, 2, 3, 0), Gaitwright::rise);
        Check.due("three, on their edge", 3, Build.withHips(6, 0, -2, 0, 2, 2, 0).rise());
        Scene loaded = ((Scene) RefusalsTest::fourLying).with(g -> g.load(10, 4, 0));
        Check.due("a load on the edge", 4, loaded.make().rise());
        refused("a load beyond the edge", ((Scene) RefusalsTest::fourLying).with(g -> g.load(11, 4, 0)), Gaitwright::rise);
        // As it would be with all feet down is what counts, also if they will not be.
        Scene stumbles = ((Scene) RefusalsTest::fourLying).with(g -> {
            g.ground(8, 8, 9, 99, 9);
            g.ground(12, 8, 9, 99, 9);
        });
        Check.due("it rises, and falls", 0, stumbles.make().rise());
    }

    /** Each pair of mapped heights, of two legs that are not beside one another in their order. */
    private static void riseByTheMap() {
        Check.part("rise, by the map");
        for (int i = 0; i < 100; i++) {
            int one = i / 10;
            int other = i % 10;
            Scene scene = ((Scene) RefusalsTest::fourLying).with(g -> {
                int[] heights = {Math.max(one, other), one, Math.max(one, other), other};
                for (int leg = 0; leg < 4; leg++) {
                    int x = 10 + 2 * Build.sideX(leg);
                    int y = 10 + 2 * Build.sideY(leg);
                    g.ground(x, y, heights[leg], 99, 9);
                    g.chart(x, y, heights[leg]);
                }
            });
            String name = "mapped " + one + " and " + other;
            if (Math.abs(one - other) <= 2) {
                Gaitwright g = scene.make();
                Check.due(name, 4, g.rise());
                Check.due(name + ", cost", 980, g.machine(3));
                Check.due(name + ", nothing was broken", 0, g.machine(8));
            } else {
                refused(name, scene, Gaitwright::rise);
            }
        }
        Scene elsewhere = ((Scene) RefusalsTest::fourLying).with(g -> g.chart(10, 10, 9));
        Check.due("the map elsewhere is no matter", 4, elsewhere.make().rise());
        // The ground as it is is no matter: it rises, if only to stumble.
        for (int i = 0; i < 16; i++) {
            Gaitwright g = fourLying();
            for (int leg = 0; leg < 4; leg++) {
                int x = 10 + 2 * Build.sideX(leg);
                int y = 10 + 2 * Build.sideY(leg);
                g.ground(x, y, (i >> leg & 1) * 9, 99, 9);
                g.chart(x, y, 5);
            }
            Check.due("all stumble", 0, g.rise());
            Check.due("four were broken", 4, g.machine(8));
            Check.due("cost", 980, g.machine(3));
        }
    }

    private static void groundUnderFeet() {
        Check.part("ground, under feet");
        for (int i = 0; i < 4; i++) {
            int leg = i;
            int x = 10 + 2 * Build.sideX(leg);
            int y = 10 + 2 * Build.sideY(leg);
            Scene four = RefusalsTest::four;
            refused("foot " + leg + " is down there", four, g -> g.ground(x, y, 9, 0, 0));
            refused("the same as it is", four, g -> g.ground(x, y, 0, 99, 9));
            done("beside it in x", four, 0, g -> g.ground(x + 1, y, 9, 0, 0));
            done("beside it in y", four, 0, g -> g.ground(x, y - 1, 9, 0, 0));
            done("the map there", four, 0, g -> g.chart(x, y, 9));
            done("as the foot is up", four.with(g -> g.lift(leg)), 0, g -> g.ground(x, y, 9, 0, 0));
            done("as the machine lies", RefusalsTest::fourLying, 0, g -> g.ground(x, y, 9, 0, 0));
        }
    }

    private static void legsAsItStands() {
        Check.part("leg, as it stands");
        Scene one = () -> {
            Gaitwright g = Build.withHips(3, 0, 0);
            g.ground(10, 10, 0, 10, 9);
            return g;
        };
        Check.due("before it rises", 1, one.make().leg(1, 0, 3));
        refused("risen", one.with(Gaitwright::rise), g -> g.leg(1, 0, 3));
        Scene fallen = one.with(Gaitwright::rise).with(g -> g.load(1, 0, 0));
        Check.due("fallen", 0, fallen.make().machine(2));
        Gaitwright g = fallen.make();
        Check.due("fallen, a second", 1, g.leg(1, 0, 3));
        Check.due("its foot is up", 0, g.foot(1, 0));
        Check.due("how many", 2, g.machine(10));
        Check.due("one is no more than that", 1, fallen.make().machine(10));
        Check.due("11 by 2 is 6, which both hold", 2, g.rise());
    }

    /** What is told, and what is asked, stands open to a machine that lies; of the acts rising and loading. */
    private static void lyingAllows() {
        Check.part("lying");
        Gaitwright g = fourLying();
        Check.due("ground", 0, g.ground(8, 8, 1, 99, 9));
        Check.due("chart", 0, g.chart(8, 8, 1));
        Check.due("leg", 4, g.leg(0, 0, 1));
        Check.due("charge", 1000, g.charge(1));
        Check.due("phase", 1, g.phase(0, 1, 0, 0, 0));
        Check.due("load", 0, g.load(5, 0, 0));
        Check.due("walk does nothing", 0, g.walk(20));
        Check.due("the first is next", 0, g.machine(11));
        Check.due("halt", 1, g.halt());
        Check.due("rise", 5, g.rise());
    }

    /** To tell costs nothing, nor does a load, nor to ask. */
    private static void poorAllows() {
        Check.part("without energy");
        Gaitwright g = Build.poor(0);
        Check.due("ground", 0, g.ground(3, 3, 1, 99, 9));
        Check.due("chart", 0, g.chart(3, 3, 1));
        Check.due("phase", 1, g.phase(4, 0, 0, 0, 0));
        Check.due("walk does nothing", 0, g.walk(20));
        Check.due("halt", 1, g.halt());
        Check.due("load", 0, g.load(20, 1, 1));
        Check.due("the foothold", 210, g.foothold(4));
        Check.due("a plan", 2, g.fewest(9, 9));
        Check.due("nothing is left", 0, g.machine(3));
        Check.due("charge", 1, g.charge(1));
    }
}
