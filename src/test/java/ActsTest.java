/** Promises 8 to 13: the acts, what breaks by them, and gaits. */
public final class ActsTest {
    public static void main(String[] args) {
        load();
        loadSinks();
        rise();
        riseRefused();
        riseSets();
        riseOnSoftGround();
        lift();
        liftSinks();
        place();
        placeRefused();
        stumble();
        slip();
        slipInVain();
        placeSinks();
        shift();
        shiftRefused();
        energy();
        walk();
        walkEndsEarly();
        walkToTheEdges();
        Check.end();
    }

    private static void load() {
        Check.part("promise 8");
        Gaitwright g = Build.standing(2, 3);
        Check.due("loads", 0, g.load(10, 4, 0));
        Check.due("the load", 10, g.machine(4));
        Check.due("the pressure, of 20 by 4", 5, g.machine(6));
        Check.due("the moment is on the edge", 0, g.margin());
        Check.due("it costs nothing", 980, g.machine(3));
        Check.due("in place of that", 0, g.load(1, 5, 5));
        Check.due("the load", 1, g.machine(4));
        Check.due("rounded up, of 11 by 4", 3, g.machine(6));
        String before = Build.sketch(g);
        Check.isState("beyond the edge", () -> g.load(11, 4, 0));
        Check.isState("beyond the edge, in y", () -> g.load(20, 0, -4));
        Check.due("changes nothing", before, Build.sketch(g));
        Gaitwright aslant = Build.standing(2, 3);
        aslant.load(20, -1, 2);
        String asLoaded = Build.sketch(aslant);
        Check.isState("beyond the edge", () -> aslant.load(20, 5, 4));
        Check.due("the same load at the same place", asLoaded, Build.sketch(aslant));
        Check.due("none", 0, g.load(0, -5, -5));
        Check.due("the most", 0, g.load(20, 3, -3));
        int[][] wrong = {{-1, 0, 0}, {21, 0, 0}, {1, -6, 0}, {1, 6, 0}, {1, 0, -6}, {1, 0, 6}, {20, 6, 5}};
        for (int[] w : wrong) {
            Check.isArgument("wrong load " + java.util.Arrays.toString(w), () -> g.load(w[0], w[1], w[2]));
        }
        Check.due("as it was", 20, g.machine(4));
        Gaitwright lying = Build.lying(2, 3);
        Check.due("lying, whatever", 0, lying.load(20, 5, 5));
        Check.due("the load", 20, lying.machine(4));
        Check.isState("but it can't rise with it", lying::rise);
    }

    private static void loadSinks() {
        Check.part("promise 8, sinking");
        Gaitwright g = Build.lying(2, 3);
        g.ground(8, 8, 1, 4, 9);
        g.chart(8, 8, 1);
        g.rise();
        Check.due("16 by 4 is 4", 0, g.load(6, 0, 0));
        Check.due("17 by 4 is 5", 2, g.load(7, 0, 0));
        Check.due("foot 0 is up", 0, g.foot(0, 0));
        Check.due("the point is lower", 0, g.point(8, 8, 0));
        Check.due("and mapped so", 0, g.point(8, 8, 3));
        Check.due("it stands", 1, g.machine(2));
        Check.due("nothing more breaks", 0, g.load(8, 0, 0));
        Check.due("one was broken", 1, g.machine(8));
    }

    private static void rise() {
        Check.part("promise 9");
        Gaitwright g = Build.lying(2, 3);
        Check.due("four feet", 4, g.rise());
        Check.due("stands", 1, g.machine(2));
        Check.due("cost", 980, g.machine(3));
        int[] x = {8, 12, 12, 8};
        int[] y = {8, 8, 12, 12};
        for (int leg = 0; leg < 4; leg++) {
            Check.due("foot x", x[leg], g.foot(leg, 1));
            Check.due("foot y", y[leg], g.foot(leg, 2));
        }
        String before = Build.sketch(g);
        Check.isState("it stands", g::rise);
        Check.due("changes nothing", before, Build.sketch(g));
        Check.due("one leg under the body", 1, Build.withHips(1, 0, 0).rise());
        Check.due("two legs", 2, Build.withHips(1, -1, -1, 2, 2).rise());
    }

    private static void riseRefused() {
        Check.part("promise 9, refused");
        Check.isState("without legs", () -> new Gaitwright().rise());
        Check.isState("two hips the same", () -> Build.withHips(3, 0, 0, 1, 1, 0, 0).rise());
        Check.isState("unstable", () -> Build.withHips(3, 1, 0, 2, 0).rise());
        Gaitwright g = Build.lying(2, 3);
        g.chart(8, 8, 5);
        g.chart(12, 8, 3);
        g.chart(12, 12, 4);
        g.chart(8, 12, 2);
        String before = Build.sketch(g);
        Check.isState("the map differs by 3", g::rise);
        Check.due("changes nothing", before, Build.sketch(g));
        g.chart(8, 12, 3);
        Check.due("by 2; but three stumble, and one is not enough", 0, g.rise());
        Check.due("it fell", 1, g.machine(9));
        Check.due("all four stumbled", 4, g.machine(8));
        Check.due("and are mapped now", 0, g.point(12, 12, 3));
        Check.due("so it rises", 4, g.rise());
        Check.due("and that is forgotten", 0, g.machine(8));
        Gaitwright h = Build.lying(2, 3);
        h.ground(8, 8, 9, 99, 9);
        Check.due("the ground may differ as it will", 3, h.rise());
    }

    private static void riseSets() {
        Check.part("promise 9, setting");
        Gaitwright g = Build.lying(2, 3);
        g.ground(12, 8, 2, 99, 9);
        Check.due("one stumbles", 3, g.rise());
        Check.due("that one", 0, g.foot(1, 0));
        Check.due("one was broken", 1, g.machine(8));
        Check.due("it is mapped", 2, g.point(12, 8, 3));
        Check.due("it stands", 1, g.machine(2));

        Gaitwright later = Build.withHips(3, -2, -2, -2, -1, 2, -2, 2, 2, -2, 2);
        slope(later);
        later.chart(8, 9, 1);
        Check.due("foot 0 slips to the hip of leg 1", 4, later.rise());
        Check.due("foot 0 x", 8, later.foot(0, 1));
        Check.due("foot 0 y", 9, later.foot(0, 2));
        Check.due("foot 1 is up", 0, later.foot(1, 0));
        Check.due("just the slip is broken", 1, later.machine(8));
        Check.due("the lower one is mapped", 0, later.point(8, 9, 3));

        Gaitwright ahead = Build.withHips(3, -2, -1, -2, -2, 2, -2, 2, 2, -2, 2);
        slope(ahead);
        Check.due("foot 1 slips to where foot 0 is", 4, ahead.rise());
        Check.due("foot 0 y", 9, ahead.foot(0, 2));
        Check.due("foot 1 is up", 0, ahead.foot(1, 0));
        Check.due("the slip is broken", 1, ahead.machine(8));
    }

    /** (8, 8) is high and slippery, and of its neighbours (8, 9) alone is lower. */
    private static void slope(Gaitwright g) {
        g.ground(8, 8, 2, 99, 1);
        g.chart(8, 8, 2);
        g.ground(8, 7, 2, 99, 9);
        g.ground(7, 8, 2, 99, 9);
        g.ground(9, 8, 2, 99, 9);
    }

    private static void riseOnSoftGround() {
        Check.part("promise 9, soft ground");
        Gaitwright g = Build.lying(2, 3);
        int[][] feet = {{8, 8}, {12, 8}, {12, 12}, {8, 12}};
        for (int[] p : feet) {
            g.ground(p[0], p[1], 1, 2, 9);
        }
        for (int i = 1; i <= 50; i++) {
            Check.due("sinks at once", 0, g.rise());
            Check.due("fell", i, g.machine(9));
            Check.due("broken since then alone", 4, g.machine(8));
        }
        Check.due("no lower than 0", 0, g.point(12, 12, 0));
        Check.due("energy", 0, g.machine(3));
        Check.isState("without energy", g::rise);
        g.charge(19);
        Check.isState("with too little", g::rise);
        Check.due("changes nothing", 19, g.machine(3));
        g.charge(1);
        Check.due("with enough", 0, g.rise());
        Check.due("energy", 0, g.machine(3));
    }

    private static void lift() {
        Check.part("promise 10");
        Gaitwright g = Build.standing(2, 3);
        Check.due("lifts", 0, g.lift(2));
        Check.due("up", 0, g.foot(2, 0));
        Check.due("cost", 979, g.machine(3));
        Check.due("how many are down", 3, g.machine(7));
        Check.due("the moment is on the edge", true, g.isStable());
        String before = Build.sketch(g);
        Check.isState("it is up", () -> g.lift(2));
        Check.isState("not stable without it", () -> g.lift(1));
        Check.isIndex("no such leg", () -> g.lift(4));
        Check.isIndex("no such leg", () -> g.lift(-1));
        Check.due("changes nothing", before, Build.sketch(g));
        Check.due("the line is enough", 0, g.lift(0));
        Gaitwright lying = Build.lying(2, 3);
        Check.isState("it lies", () -> lying.lift(0));
        Check.isIndex("it lies, and has no such leg", () -> lying.lift(4));
        Gaitwright one = Build.withHips(1, 0, 0);
        one.rise();
        Check.isState("the last one", () -> one.lift(0));
    }

    private static void liftSinks() {
        Check.part("promise 10, sinking");
        Gaitwright g = Build.lying(2, 3);
        g.ground(12, 12, 1, 3, 9);
        g.chart(12, 12, 1);
        g.rise();
        Check.due("10 by 4 is 3, that holds", 0, g.machine(8));
        Check.due("10 by 3 is 4", 2, g.lift(0));
        Check.due("foot 2 sank", 0, g.foot(2, 0));
        Check.due("the height", 0, g.point(12, 12, 0));
        Check.due("it stands on the line", 1, g.machine(2));
        Check.due("pressure", 5, g.machine(6));

        Gaitwright h = Build.lying(2, 3);
        h.ground(12, 12, 0, 3, 9);
        h.ground(12, 8, 0, 4, 9);
        h.rise();
        Check.due("foot 2, then by 5 foot 1", 2, h.lift(0));
        Check.due("it fell", 0, h.machine(2));
        Check.due("no foot is down", 0, h.machine(7));
        Check.due("two were broken", 2, h.machine(8));
        Check.due("to foot 1, from (8, 12)", 6, h.fall(0, 0));
        Check.due("by sinking", 2, h.fall(0, 1));
        Check.due("first at (12, 12)", 12, h.fall(0, 2));
        Check.due("first at (12, 12)", 12, h.fall(0, 3));
    }

    private static void place() {
        Check.part("promise 11");
        Gaitwright g = Build.withFreeFoot();
        Check.due("places", 0, g.place(4, 12, 13));
        Check.due("x", 12, g.foot(4, 1));
        Check.due("y", 13, g.foot(4, 2));
        Check.due("cost, 1 and 5", 973, g.machine(3));
        g.lift(4);
        Check.due("just in reach", 0, g.place(4, 10, 6));
        Check.due("cost", 967, g.machine(3));
        g.lift(4);
        Check.due("at the hip", 0, g.place(4, 10, 10));
        Check.due("cost", 965, g.machine(3));
        g.lift(4);
        g.chart(10, 11, 2);
        g.ground(10, 11, 1, 99, 9);
        Check.due("2 higher by the map", 0, g.place(4, 10, 11));
        Check.due("it is mapped now", 1, g.point(10, 11, 3));
        g.lift(4);
        g.chart(8, 8, 4);
        g.chart(10, 9, 2);
        g.ground(10, 9, 2, 99, 9);
        Check.due("2 lower than the level", 0, g.place(4, 10, 9));
    }

    private static void placeRefused() {
        Check.part("promise 11, refused");
        Gaitwright g = Build.withFreeFoot();
        g.chart(10, 9, 3);
        String before = Build.sketch(g);
        Check.isState("out of reach", () -> g.place(4, 13, 13));
        Check.isState("out of reach", () -> g.place(4, 15, 10));
        Check.isState("a foot is there", () -> g.place(4, 8, 8));
        Check.isState("3 higher by the map", () -> g.place(4, 10, 9));
        Check.isState("its foot is down", () -> g.place(0, 9, 9));
        Check.isIndex("no such leg", () -> g.place(5, 10, 10));
        Check.isIndex("nor such a point", () -> g.place(-1, 20, 10));
        for (int[] p : new int[][] {{-1, 10}, {20, 10}, {10, -1}, {10, 20}}) {
            Check.isArgument("no such point", () -> g.place(4, p[0], p[1]));
            Check.isArgument("no such point, and its foot is down", () -> g.place(0, p[0], p[1]));
        }
        Check.due("changes nothing", before, Build.sketch(g));
        g.chart(12, 12, 3);
        Check.isState("3 lower than the level", () -> g.place(4, 10, 10));
        Gaitwright lying = Build.lying(2, 3);
        Check.isState("it lies", () -> lying.place(0, 8, 8));
        Check.isArgument("it lies, and no such point", () -> lying.place(0, 8, 20));
    }

    private static void stumble() {
        Check.part("promise 11, stumbling");
        Gaitwright g = Build.withFreeFoot();
        g.ground(10, 9, 2, 99, 0);
        g.chart(10, 8, 4);
        Check.due("2 higher than mapped", 1, g.place(4, 10, 9));
        Check.due("up", 0, g.foot(4, 0));
        Check.due("mapped", 2, g.point(10, 9, 3));
        Check.due("it does not slip as well", 4, g.point(10, 8, 3));
        Check.due("one was broken", 1, g.machine(8));
        Check.due("it is paid for", 977, g.machine(3));
        g.chart(11, 10, 2);
        Check.due("2 lower than mapped", 1, g.place(4, 11, 10));
        Check.due("mapped", 0, g.point(11, 10, 3));
        g.ground(9, 10, 1, 99, 9);
        Check.due("1 higher is no matter", 0, g.place(4, 9, 10));
        Check.due("mapped", 1, g.point(9, 10, 3));
        Check.due("down", 1, g.foot(4, 0));
        Check.due("two were broken", 2, g.machine(8));
    }

    /** Makes (10, 9) 3 high, mapped 2, and its neighbours as told: at y 8, at x 9, at x 11, at y 10. */
    private static Gaitwright hill(int grip, int up, int left, int right, int down) {
        Gaitwright g = Build.withFreeFoot();
        g.ground(10, 9, 3, 99, grip);
        g.chart(10, 9, 2);
        g.ground(10, 8, up, 99, 0);
        g.ground(9, 9, left, 99, 0);
        g.ground(11, 9, right, 99, 0);
        g.ground(10, 10, down, 99, 0);
        return g;
    }

    private static void slip() {
        Check.part("promise 11, slipping");
        int[][] runs = {{1, 0, 0, 0, 0, 10, 8}, {1, 1, 0, 0, 0, 9, 9}, {1, 1, 1, 0, 0, 11, 9},
            {1, 1, 1, 1, 0, 10, 10}, {2, 1, 1, 1, 1, 10, 9}, {2, 0, 0, 0, 0, 10, 8}, {3, 0, 0, 0, 0, 10, 9},
            {0, 2, 2, 1, 1, 11, 9}, {0, 3, 3, 3, 3, 10, 9}, {0, 9, 9, 2, 9, 11, 9}};
        for (int[] r : runs) {
            Gaitwright g = hill(r[0], r[1], r[2], r[3], r[4]);
            boolean isHeld = r[5] == 10 && r[6] == 9;
            String run = java.util.Arrays.toString(r);
            Check.due("broken " + run, isHeld ? 0 : 3, g.place(4, 10, 9));
            Check.due("x " + run, r[5], g.foot(4, 1));
            Check.due("y " + run, r[6], g.foot(4, 2));
            Check.due("mapped " + run, 3, g.point(10, 9, 3));
            Check.due("mapped there " + run, g.point(r[5], r[6], 0), g.point(r[5], r[6], 3));
            Check.due("how many " + run, isHeld ? 0 : 1, g.machine(8));
        }
        Gaitwright g = hill(1, 1, 1, 1, 1);
        g.ground(10, 9, 3, 99, 1);
        g.ground(10, 8, 0, 99, 0);
        g.ground(10, 7, 0, 99, 0);
        g.chart(11, 9, 7);
        Check.due("slips", 3, g.place(4, 10, 9));
        Check.due("the other neighbours stay as mapped", 7, g.point(11, 9, 3));
        Gaitwright h = hill(0, 1, 2, 2, 2);
        h.ground(10, 7, 0, 99, 9);
        Check.due("slips", 3, h.place(4, 10, 9));
        Check.due("but not on from there", 8, h.foot(4, 2));
        Check.due("one was broken", 1, h.machine(8));
    }

    private static void slipInVain() {
        Check.part("promise 11, slipping in vain");
        Gaitwright g = Build.withFreeFoot();
        g.ground(8, 9, 2, 99, 1);
        g.chart(8, 9, 1);
        g.chart(8, 8, 1);
        Check.due("to where foot 0 is", 3, g.place(4, 8, 9));
        Check.due("up", 0, g.foot(4, 0));
        Check.due("foot 0 stays", 1, g.foot(0, 0));
        Check.due("mapped", 2, g.point(8, 9, 3));
        Check.due("mapped there too", 0, g.point(8, 8, 3));
        Gaitwright h = Build.withFreeFoot();
        h.ground(10, 6, 2, 99, 1);
        h.chart(10, 6, 2);
        h.chart(10, 5, 7);
        Check.due("out of reach", 3, h.place(4, 10, 6));
        Check.due("up", 0, h.foot(4, 0));
        Check.due("mapped there too", 0, h.point(10, 5, 3));
        Check.due("one was broken", 1, h.machine(8));
        Gaitwright e = Build.withHips(3, 0, 0);
        e.ground(10, 10, 1, 99, 0);
        e.chart(10, 10, 1);
        Check.due("slips from under the body", 0, e.rise());
        Check.due("so it falls", 1, e.machine(9));
        Check.due("from (10, 9) to greater y", 5, e.fall(0, 0));
        Check.due("as it slipped", 3, e.fall(0, 1));
        Check.due("from x", 10, e.fall(0, 2));
        Check.due("from y", 10, e.fall(0, 3));
    }

    private static void placeSinks() {
        Check.part("promise 11, sinking");
        Gaitwright g = Build.withFreeFoot();
        g.ground(10, 9, 1, 1, 9);
        g.ground(10, 8, 1, 2, 9);
        Check.due("10 by 5 is 2", 2, g.place(4, 10, 9));
        Check.due("up", 0, g.foot(4, 0));
        Check.due("the height", 0, g.point(10, 9, 0));
        Check.due("mapped", 0, g.point(10, 9, 3));
        Check.due("2 holds", 0, g.place(4, 10, 8));
        Check.due("down", 1, g.foot(4, 0));
        Gaitwright h = hill(1, 0, 0, 0, 0);
        h.ground(10, 8, 0, 1, 9);
        Check.due("slips and sinks: the first counts", 3, h.place(4, 10, 9));
        Check.due("up", 0, h.foot(4, 0));
        Check.due("two were broken", 2, h.machine(8));
    }

    private static void shift() {
        Check.part("promise 12");
        Gaitwright g = Build.standing(2, 3);
        Check.due("both ways", 0, g.shift(1, -1));
        Check.due("x", 11, g.machine(0));
        Check.due("y", 9, g.machine(1));
        Check.due("cost", 979, g.machine(3));
        Check.due("the feet stay", 8, g.foot(0, 1));
        Check.due("back", 0, g.shift(-1, 1));
        Check.due("x alone", 0, g.shift(-1, 0));
        Check.due("y alone", 0, g.shift(0, 1));
        int[][] costs = {{0, 1}, {1, 2}, {10, 2}, {11, 3}, {20, 3}};
        for (int[] c : costs) {
            g.load(c[0], 0, 0);
            int before = g.machine(3);
            g.shift(1, 0);
            Check.due("cost with " + c[0], before - c[1], g.machine(3));
            g.shift(-1, 0);
        }
        int[][] wrong = {{0, 0}, {-2, 0}, {2, 0}, {0, -2}, {0, 2}, {Integer.MIN_VALUE, 1}};
        for (int[] w : wrong) {
            Check.isArgument("wrong way " + w[0] + ", " + w[1], () -> g.shift(w[0], w[1]));
        }
    }

    private static void shiftRefused() {
        Check.part("promise 12, refused");
        Gaitwright shortLegs = Build.standing(2, 1);
        Check.due("just in reach", 0, shortLegs.shift(1, 0));
        String before = Build.sketch(shortLegs);
        Check.isState("out of reach", () -> shortLegs.shift(1, 0));
        Check.isState("out of reach, aslant", () -> shortLegs.shift(0, 1));
        Check.due("changes nothing", before, Build.sketch(shortLegs));
        Gaitwright longLegs = Build.standing(2, 6);
        longLegs.shift(1, 0);
        Check.due("onto the edge", 0, longLegs.shift(1, 0));
        String edge = Build.sketch(longLegs);
        Check.isState("not stable", () -> longLegs.shift(1, 0));
        Check.due("changes nothing", edge, Build.sketch(longLegs));
        Check.due("along the edge", 0, longLegs.shift(0, 1));
        Gaitwright lying = Build.lying(2, 3);
        Check.isState("it lies", () -> lying.shift(1, 0));
        Check.isArgument("it lies, and there is no way", () -> lying.shift(0, 0));
        Gaitwright g = new Gaitwright();
        g.leg(-2, -2, 1);
        g.leg(2, -2, 3);
        g.leg(2, 2, 3);
        g.leg(-2, 2, 3);
        g.rise();
        Check.isState("one foot is out of reach", () -> g.shift(1, 1));
        g.lift(0);
        Check.due("a foot that is up is none", 0, g.shift(1, 1));
    }

    /** Foot 4 down at (13, 12), and a gait that lifts it and places it there again, until the energy is 0. */
    private static Gaitwright poor() {
        Gaitwright g = Build.withFreeFoot();
        g.place(4, 13, 12);
        g.phase(4, 0, 0, 0, 0);
        for (int i = 0; i < 6; i++) {
            Check.due("7 each", 20, g.walk(20));
        }
        Check.due("energy", 133, g.machine(3));
        Check.due("for 19 more", 19, g.walk(20));
        Check.due("energy", 0, g.machine(3));
        return g;
    }

    private static void energy() {
        Check.part("promises 8 to 13, energy");
        Gaitwright g = poor();
        Check.due("down", 1, g.foot(4, 0));
        Check.isState("nothing for lifting", () -> g.lift(4));
        Check.isState("nothing for shifting", () -> g.shift(1, 0));
        Check.due("nothing to walk on", 0, g.walk(3));
        Check.due("would not", -1, g.wouldLift(4));
        Check.due("a load costs nothing", 0, g.load(1, 0, 0));
        g.charge(1);
        Check.isState("2 with a load", () -> g.shift(1, 0));
        Check.due("not paid", 1, g.machine(3));
        g.charge(1);
        Check.due("2 with a load", 0, g.shift(1, 0));
        Check.due("paid", 0, g.machine(3));
        g.charge(2);
        g.shift(-1, 0);
        g.charge(1);
        Check.due("would", 0, g.wouldLift(4));
        Check.due("1 for lifting", 0, g.lift(4));
        Check.due("paid", 0, g.machine(3));
        Check.isState("nothing for placing", () -> g.place(4, 10, 10));
        g.charge(5);
        Check.isState("6 for so far", () -> g.place(4, 13, 12));
        Check.due("not paid", 5, g.machine(3));
        g.charge(1);
        Check.due("6 for so far", 0, g.place(4, 13, 12));
        Check.due("paid", 0, g.machine(3));
        g.charge(6);
        Check.due("7 for a phase", 0, g.walk(1));
        Check.due("it is lifted all the same", 0, g.foot(4, 0));
        Check.due("and that is paid", 5, g.machine(3));
    }

    private static void walk() {
        Check.part("promise 13");
        Gaitwright g = Build.withFreeFoot();
        Check.isState("no phases", () -> g.walk(1));
        Check.isArgument("no phases, and too many", () -> g.walk(21));
        g.place(4, 10, 10);
        g.phase(4, 1, 0, 0, 0);
        g.phase(4, 0, 1, 1, 0);
        g.phase(4, -1, -1, -1, 0);
        for (int phases : new int[] {0, -1, 21, Integer.MAX_VALUE, Integer.MIN_VALUE}) {
            Check.isArgument("walk(" + phases + ")", () -> g.walk(phases));
        }
        Check.due("two", 2, g.walk(2));
        Check.due("the third is next", 2, g.machine(11));
        Check.due("foot x", 11, g.foot(4, 1));
        Check.due("foot y", 11, g.foot(4, 2));
        Check.due("body x", 11, g.machine(0));
        Check.due("round again", 5, g.walk(5));
        Check.due("the second is next", 1, g.machine(11));
        Check.due("foot x", 11, g.foot(4, 1));
        Check.due("foot y", 10, g.foot(4, 2));
        Check.due("the most", 20, g.walk(20));
        Check.due("the first is next", 0, g.machine(11));
        Check.due("it stands", 1, g.machine(2));
        Gaitwright lying = Build.lying(2, 3);
        lying.phase(0, 0, 0, 0, 0);
        Check.due("lying, none is done", 0, lying.walk(5));
        Check.due("the same is next", 0, lying.machine(11));
    }

    private static void walkEndsEarly() {
        Check.part("promise 13, ending early");
        Gaitwright up = Build.withFreeFoot();
        up.phase(4, 0, 0, 0, 0);
        Check.due("its foot is up", 0, up.walk(2));
        Check.due("nothing is paid", 979, up.machine(3));

        Gaitwright shift = Build.standing(2, 1);
        shift.phase(0, 0, 0, 1, 0);
        Check.due("the second way of the body is refused", 1, shift.walk(5));
        Check.due("its step is done, and paid", 980 - 3 - 3, shift.machine(3));
        Check.due("it is next", 0, shift.machine(11));

        Gaitwright hill = Build.withFreeFoot();
        hill.place(4, 10, 10);
        hill.ground(11, 10, 2, 99, 9);
        hill.phase(4, 0, 0, 0, 0);
        hill.phase(4, 1, 0, 1, 0);
        Check.due("stumbles in the second", 1, hill.walk(20));
        Check.due("that is next", 1, hill.machine(11));
        Check.due("the foot is up", 0, hill.foot(4, 0));
        Check.due("the body stays", 10, hill.machine(0));
        Check.due("and can't be lifted", 0, hill.walk(20));

        Gaitwright slope = Build.withFreeFoot();
        slope.place(4, 10, 10);
        slope.ground(11, 10, 2, 99, 0);
        slope.chart(11, 10, 2);
        slope.phase(4, 1, 0, 1, 0);
        Check.due("slips", 0, slope.walk(20));
        Check.due("the foot is down", 9, slope.foot(4, 2));
        Check.due("the body stays", 10, slope.machine(0));
        Check.due("from there on", 1, slope.walk(1));
        Check.due("foot x", 12, slope.foot(4, 1));
        Check.due("body x", 11, slope.machine(0));

        Gaitwright soft = Build.lying(2, 3);
        soft.ground(12, 12, 0, 3, 9);
        soft.rise();
        soft.phase(0, 1, 1, 0, 0);
        Check.due("lifting sinks another", 0, soft.walk(20));
        Check.due("the foot is not placed", 0, soft.foot(0, 0));
        Check.due("one was broken", 1, soft.machine(8));

        Gaitwright far = Build.withFreeFoot();
        far.place(4, 10, 7);
        far.phase(4, 0, -6, 0, 0);
        Check.due("out of reach", 0, far.walk(1));
        Check.due("the foot is up", 0, far.foot(4, 0));
    }

    private static void walkToTheEdges() {
        Check.part("promises 12 and 13, the edges");
        for (int[] way : new int[][] {{1, 0}, {-1, 0}, {0, 1}, {0, -1}}) {
            Gaitwright g = Build.walker(way[0], way[1]);
            int gaits = way[0] + way[1] > 0 ? 9 : 10;
            for (int i = 0; i < gaits; i++) {
                Check.due("a gait", 5, g.walk(5));
            }
            Check.due("x", 10 + gaits * way[0], g.machine(0));
            Check.due("y", 10 + gaits * way[1], g.machine(1));
            Check.due("beyond all points", 0, g.walk(5));
            Check.due("the foot is up", 0, g.foot(0, 0));
            Check.due("the first is next", 0, g.machine(11));
            Check.due("the load keeps it stable", 0, g.load(20, -2 * way[0], -2 * way[1]));
            Check.isState("the body can't go beyond", () -> g.shift(way[0], way[1]));
            Check.due("x", 10 + gaits * way[0], g.machine(0));
            Check.due("y", 10 + gaits * way[1], g.machine(1));
            Check.due("without the load", 0, g.load(0, 0, 0));
            Check.due("it goes back", 0, g.shift(-way[0], -way[1]));
        }
    }
}
